/** Promises 22 to 25: tests, the faults that explain them, the next test. */
public final class FaultTest {
    private static final int BAD = BellPulls.BAD, FULL = BellPulls.FULL, NONE = BellPulls.NONE;
    private static final int[] FAR_OFF = {Integer.MIN_VALUE, Integer.MAX_VALUE};
    private static final Due due = new Due();

    public static void main(String[] args) {
        numbers();
        tests();
        deadOrMute();
        weakBySlack();
        heatOfTheTest();
        slackByOne();
        theStateIsNoMatter();
        nextTest();
        nextTestByHeat();
        due.end();
    }

    private static void numbers() {
        BellPulls x = new BellPulls();
        due.is("24 all", x.fault(-1), 168);
        for (int i = 0; i < 168; i++) {
            due.is("24 by numbers", x.fault(i), i);
        }
        due.is("24 no more", x.fault(168), NONE);
        due.is("24 far", x.fault(Integer.MAX_VALUE), NONE);
        due.is("24 -2", x.fault(-2), BAD);
        due.is("24 far below", x.fault(Integer.MIN_VALUE), BAD);
        due.is("25 no pulls", x.nextTest(), NONE);
    }

    private static void tests() {
        BellPulls x = new BellPulls();
        due.is("22 no pull", x.test(0, 0, 0), BAD);
        x.pull(0, 0, 0, 0, 0b1);
        due.is("22 pull -1", x.test(-1, 0, 0), BAD);
        due.is("22 pull 1", x.test(1, 0, 0), BAD);
        due.is("22 heat -1", x.test(0, -1, 0), BAD);
        due.is("22 heat 41", x.test(0, 41, 0), BAD);
        due.is("22 outcome -2", x.test(0, 0, -2), BAD);
        due.is("22 outcome 3", x.test(0, 0, 3), BAD);
        for (int n : FAR_OFF) {
            due.is("22 pull far", x.test(n, 0, 0), BAD);
            due.is("22 heat far", x.test(0, n, 0), BAD);
            due.is("22 outcome far", x.test(0, 0, n), BAD);
        }
        due.is("22 none came", x.count(6), 0);
        due.is("24 none told", x.fault(-1), 168);
        due.is("22 low edges", x.test(0, 0, -1), 1);
        due.is("22 high edges", x.test(0, 40, 2), 2);
        for (int i = 3; i <= 12; i++) {
            due.is("22 a gap", x.test(0, 0, -1), i);
        }
        int left = x.fault(-1);
        due.is("22 full", x.test(0, 0, 0), FULL);
        due.is("22 bad before full", x.test(0, 0, 3), BAD);
        due.is("22 full tells nothing", x.fault(-1), left);
        due.is("28 tests", x.count(6), 12);
        due.is("23 how many were", x.noTests(), 12);
        due.is("23 none were", x.noTests(), 0);
        due.is("28 no tests", x.count(6), 0);
        due.is("23 all explain", x.fault(-1), 168);
        due.is("23 by numbers again", x.fault(100), 100);
        due.is("22 from one again", x.test(0, 0, 0), 1);
    }

    private static void deadOrMute() {
        BellPulls x = new BellPulls();
        x.pull(0, 0, 0, 7, 0b1000000000000101);
        x.pull(0, 0, 0, 6, 0b1000000000000000);
        x.test(0, 0, 0);
        due.is("24 three cranks, one bell", x.fault(-1), 4);
        due.is("24 crank 0 dead", x.fault(0), 0);
        due.is("24 crank 2 dead", x.fault(1), 2);
        due.is("24 crank 15 dead", x.fault(2), 15);
        due.is("24 bell 7 mute", x.fault(3), 167);
        due.is("24 no more", x.fault(4), NONE);
        x.test(1, 0, 0);
        due.is("24 one fault for both", x.fault(-1), 1);
        due.is("24 the crank in common", x.fault(0), 15);
        x.test(1, 0, -1);
        due.is("24 a gap tells nothing", x.fault(-1), 1);
        x.test(1, 0, 1);
        due.is("24 none explains", x.fault(-1), 0);
        due.is("24 none", x.fault(0), NONE);
        due.is("24 -2 though none", x.fault(-2), BAD);
    }

    private static void weakBySlack() {
        BellPulls x = new BellPulls();
        x.pull(0, 0, 0, 0, 0b1000000000001000);
        x.test(0, 0, 1);
        // slack 5 to 9 leaves 5 to 1
        due.is("24 two cranks", x.fault(-1), 10);
        for (int s = 5; s <= 9; s++) {
            due.is("24 crank 3", x.fault(s - 5), 16 + 27 + s - 1);
            due.is("24 crank 15", x.fault(s), 16 + 135 + s - 1);
        }
        due.is("24 the greatest slack fault", x.fault(9), 159);
        due.is("23 one", x.noTests(), 1);
        x.test(0, 0, 2);
        // not 2 dead, not 10 slack, not bell 0
        due.is("24 loud", x.fault(-1), 168 - 13);
        due.is("24 slack 4 is loud", x.fault(3 + 11 + 27 + 3), 16 + 27 + 3);
    }

    private static void heatOfTheTest() {
        BellPulls x = new BellPulls();
        x.pull(0, 0, 0, 2, 0b11);
        x.heat(40);
        x.test(0, 10, 0);
        // 20 by 20: force 9, so a slack of 9 is nothing
        due.is("24 dead, slack 9, mute", x.fault(-1), 5);
        due.is("24 crank 0 dead", x.fault(0), 0);
        due.is("24 crank 1 dead", x.fault(1), 1);
        due.is("24 crank 0 slack by 9", x.fault(2), 24);
        due.is("24 crank 1 slack by 9", x.fault(3), 33);
        due.is("24 bell 2 mute", x.fault(4), 162);
        x.noTests();
        x.test(0, 9, 0);
        due.is("24 18 by 20 is cut", x.fault(-1), 3);
        x.noTests();
        x.pull(0, 0, 0, 3, 0b11111);
        x.test(1, 40, 0);
        due.is("24 no force at all: any fault", x.fault(-1), 168);
        x.noTests();
        x.test(1, 20, 1);
        // force 5: all but dead, slack 5 to 9 and mute
        due.is("24 weak by heat alone", x.fault(-1), 168 - 5 - 25 - 1);
    }

    private static void slackByOne() {
        BellPulls x = new BellPulls();
        x.pull(0, 0, 0, 0, 0b1000000000000111);
        x.test(0, 20, 1);
        // force 6 less 1 to 5 is weak
        due.is("24 four cranks", x.fault(-1), 20);
        due.is("24 the first slack fault", x.fault(0), 16);
        due.is("24 crank 0 slack by 5", x.fault(4), 20);
        due.is("24 crank 1 slack by 1", x.fault(5), 25);
        due.is("24 crank 15 slack by 1", x.fault(15), 151);
        x.noTests();
        x.test(0, 20, 0);
        // and less 6 to 9 is nothing
        due.is("24 dead, slack 6 to 9, mute", x.fault(-1), 4 + 16 + 1);
        due.is("24 after the dead", x.fault(4), 21);
    }

    private static void theStateIsNoMatter() {
        BellPulls x = new BellPulls();
        x.pull(0, 0, 0, 0, 0b1);
        x.pull(0, 0, 0, 1, 0b10);
        x.crank(0, 10);
        x.crank(1, 9);
        x.bell(1, 1, 1);
        x.cross(0, 1);
        x.test(0, 0, 2);
        x.test(1, 0, 2);
        due.is("24 all else is good and well", x.fault(-1), 168 - 2 * (1 + 5 + 1));
    }

    private static void nextTest() {
        BellPulls x = new BellPulls();
        x.pull(0, 0, 0, 0, 0b1);
        due.is("25 the only one", x.nextTest(), 0);
        x.pull(0, 0, 0, 0, 0b1);
        due.is("25 of several the lowest", x.nextTest(), 0);
        x.pull(0, 0, 0, 1, 0b1110);
        due.is("25 the one that parts more", x.nextTest(), 2);
        x.test(0, 0, 0);
        // crank 0 dead, bell 0 mute
        x.pull(0, 0, 0, 0, 0b10);
        due.is("24 two", x.fault(-1), 2);
        due.is("25 parts the two", x.nextTest(), 3);
        x.test(3, 0, 0);
        due.is("24 one is left", x.fault(0), 160);
        due.is("25 one explains", x.nextTest(), NONE);
        x.test(3, 0, 2);
        due.is("25 none explains", x.nextTest(), NONE);
        x.noTests();
        x.test(0, 0, 1);
        // slack 5 to 9: none parts them now
        due.is("25 parts nothing", x.nextTest(), 0);
    }

    private static void nextTestByHeat() {
        BellPulls x = new BellPulls();
        x.pull(0, 0, 0, 0, 0b1);
        x.pull(0, 0, 0, 1, 0b11111);
        x.pull(0, 0, 0, 2, 0b1);
        x.test(0, 0, 1);
        x.heat(8);
        // slack 5 to 9; pull 1 has force 8: nothing at 8 and 9, so 3 come alike
        due.is("25 by heat as it is now", x.nextTest(), 1);
        x.heat(3);
        due.is("25 no heat to speak of", x.nextTest(), 0);
        x.heat(40);
        // pulls 0 and 2 have force 8: 3 alike; pull 1 none at all
        due.is("25 in great heat", x.nextTest(), 0);
        x.heat(12);
        // pull 1 has force 7: 7 to 9 come to nothing, 5 and 6 weak
        due.is("25 three alike", x.nextTest(), 1);
    }
}
