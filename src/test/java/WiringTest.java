/** Promises 1 to 10: a new object, cranks, bells, heat, pulls, crossings, what rings, what it means. */
public final class WiringTest {
    private static final int BAD = BellPulls.BAD, NO = BellPulls.NO, FULL = BellPulls.FULL;
    private static final int[] FAR_OFF = {Integer.MIN_VALUE, Integer.MAX_VALUE};
    private static final Due due = new Due();

    public static void main(String[] args) {
        newObject();
        crank();
        bell();
        heat();
        pull();
        pullsAreFull();
        cross();
        force();
        wouldAlone();
        wouldCrossed();
        wouldCrossedWithSeveral();
        means();
        meansBadNumbers();
        due.end();
    }

    private static void newObject() {
        BellPulls x = new BellPulls();
        for (int what = 0; what <= 8; what++) {
            due.is("1 new count " + what, x.count(what), 0);
        }
        due.is("1 nothing swings", x.swings(-1), 0);
        due.is("1 no flags", x.flags(0), 0);
        due.is("1 no pairs", x.uncross(), 0);
        due.is("1 no tests", x.noTests(), 0);
        due.is("1 no servant", x.servantTold(0, 0), BAD);
        due.is("1 no pull", x.force(0), BAD);
        for (int a = 0; a < 24; a++) {
            if (a % 6 != 5) {
                due.is("1 right of " + a, x.frame(a, a + 1, 0), 0);
            }
            if (a < 18) {
                due.is("1 above " + a, x.frame(a, a + 6, 0), 0);
            }
        }
        BellPulls other = new BellPulls();
        other.pull(0, 0, 0, 0, 1);
        other.heat(7);
        due.is("1 objects share nothing", x.count(0), 0);
        due.is("1 objects share no heat", x.heat(0), 0);
    }

    private static void crank() {
        BellPulls x = new BellPulls();
        for (int c = 0; c < 16; c++) {
            due.is("2 good at first " + c, x.crank(c, c % 11), 0);
        }
        for (int c = 0; c < 16; c++) {
            due.is("2 what it was " + c, x.crank(c, 10), c % 11);
        }
        due.is("2 crank -1", x.crank(-1, 0), BAD);
        due.is("2 crank 16", x.crank(16, 0), BAD);
        due.is("2 v -1", x.crank(3, -1), BAD);
        due.is("2 v 11", x.crank(3, 11), BAD);
        for (int n : FAR_OFF) {
            due.is("2 crank far", x.crank(n, 0), BAD);
            due.is("2 v far", x.crank(0, n), BAD);
        }
        due.is("2 bad changed nothing", x.crank(3, 9), 10);
        due.is("2 dead to slack", x.crank(3, 0), 9);
        due.is("2 slack to good", x.crank(3, 0), 0);
    }

    private static void bell() {
        BellPulls x = new BellPulls();
        for (int b = 0; b < 8; b++) {
            due.is("3 tone at first", x.bell(b, 0, b % 6), 0);
            due.is("3 well at first", x.bell(b, 1, b % 2), 0);
        }
        for (int b = 0; b < 8; b++) {
            due.is("3 tone it was", x.bell(b, 0, 5), b % 6);
            due.is("3 mute it was", x.bell(b, 1, 1), b % 2);
        }
        due.is("3 bell -1", x.bell(-1, 0, 0), BAD);
        due.is("3 bell 8", x.bell(8, 1, 0), BAD);
        due.is("3 what -1", x.bell(0, -1, 0), BAD);
        due.is("3 what 2", x.bell(0, 2, 0), BAD);
        due.is("3 tone -1", x.bell(0, 0, -1), BAD);
        due.is("3 tone 6", x.bell(0, 0, 6), BAD);
        due.is("3 mute -1", x.bell(0, 1, -1), BAD);
        due.is("3 mute 2", x.bell(0, 1, 2), BAD);
        for (int n : FAR_OFF) {
            due.is("3 bell far", x.bell(n, 0, 0), BAD);
            due.is("3 what far", x.bell(0, n, 0), BAD);
            due.is("3 v far", x.bell(0, 0, n), BAD);
            due.is("3 v far", x.bell(0, 1, n), BAD);
        }
        due.is("3 tone kept", x.bell(0, 0, 0), 5);
        due.is("3 mute kept", x.bell(0, 1, 0), 1);
        due.is("3 well again", x.bell(0, 1, 0), 0);
    }

    private static void heat() {
        BellPulls x = new BellPulls();
        due.is("4 at first", x.heat(40), 0);
        due.is("4 41", x.heat(41), BAD);
        due.is("4 -1", x.heat(-1), BAD);
        for (int n : FAR_OFF) {
            due.is("4 far", x.heat(n), BAD);
        }
        due.is("4 kept", x.heat(0), 40);
        due.is("4 zero", x.heat(1), 0);
    }

    private static void pull() {
        BellPulls x = new BellPulls();
        due.is("5 floor -1", x.pull(-1, 0, 0, 0, 1), BAD);
        due.is("5 floor 4", x.pull(4, 0, 0, 0, 1), BAD);
        due.is("5 place -1", x.pull(0, -1, 0, 0, 1), BAD);
        due.is("5 place 31", x.pull(0, 31, 0, 0, 1), BAD);
        due.is("5 rank -1", x.pull(0, 0, -1, 0, 1), BAD);
        due.is("5 rank 5", x.pull(0, 0, 5, 0, 1), BAD);
        due.is("5 bell -1", x.pull(0, 0, 0, -1, 1), BAD);
        due.is("5 bell 8", x.pull(0, 0, 0, 8, 1), BAD);
        due.is("5 no cranks", x.pull(0, 0, 0, 0, 0), BAD);
        due.is("5 six cranks", x.pull(0, 0, 0, 0, 0xFC00), BAD);
        due.is("5 crank 16", x.pull(0, 0, 0, 0, 1 << 16), BAD);
        due.is("5 cranks -1", x.pull(0, 0, 0, 0, -1), BAD);
        for (int n : FAR_OFF) {
            due.is("5 floor far", x.pull(n, 0, 0, 0, 1), BAD);
            due.is("5 place far", x.pull(0, n, 0, 0, 1), BAD);
            due.is("5 rank far", x.pull(0, 0, n, 0, 1), BAD);
            due.is("5 bell far", x.pull(0, 0, 0, n, 1), BAD);
            due.is("5 cranks far", x.pull(0, 0, 0, 0, n), BAD);
        }
        due.is("5 none came", x.count(0), 0);
        due.is("5 the edges", x.pull(3, 30, 4, 7, 0xF800), 0);
        due.is("5 the low edges", x.pull(0, 0, 0, 0, 1), 1);
        due.is("5 two came", x.count(0), 2);
    }

    private static void pullsAreFull() {
        BellPulls x = new BellPulls();
        for (int i = 0; i < 12; i++) {
            due.is("5 number", x.pull(i % 4, i, i % 5, i % 8, 1 << i), i);
        }
        due.is("5 full", x.pull(0, 0, 0, 0, 1), FULL);
        due.is("5 bad before full", x.pull(0, 0, 5, 0, 1), BAD);
        due.is("5 twelve stay", x.count(0), 12);
        due.is("5 the last is there", x.force(11), 10);
        due.is("5 no thirteenth", x.force(12), BAD);
    }

    private static void cross() {
        BellPulls x = new BellPulls();
        due.is("6 first", x.cross(0, 15), 1);
        due.is("6 again", x.cross(0, 15), NO);
        due.is("6 the other way round", x.cross(15, 0), NO);
        due.is("6 one crank twice", x.cross(0, 1), 2);
        due.is("6 third", x.cross(2, 1), 3);
        due.is("6 the first is crossed yet", x.cross(0, 15), NO);
        due.is("6 the second, too", x.cross(1, 0), NO);
        due.is("6 a is b", x.cross(7, 7), BAD);
        due.is("6 fourth", x.cross(8, 9), 4);
        due.is("6 fifth", x.cross(3, 4), FULL);
        due.is("6 no before full", x.cross(1, 2), NO);
        due.is("6 bad before full", x.cross(4, 4), BAD);
        due.is("6 a -1", x.cross(-1, 0), BAD);
        due.is("6 a 16", x.cross(16, 0), BAD);
        due.is("6 b -1", x.cross(0, -1), BAD);
        due.is("6 b 16", x.cross(0, 16), BAD);
        for (int n : FAR_OFF) {
            due.is("6 a far", x.cross(n, 0), BAD);
            due.is("6 b far", x.cross(0, n), BAD);
        }
        due.is("7 four were", x.uncross(), 4);
        due.is("7 none were", x.uncross(), 0);
        due.is("7 may be crossed anew", x.cross(15, 0), 1);
        due.is("7 one was", x.uncross(), 1);
    }

    private static void force() {
        BellPulls x = new BellPulls();
        x.pull(0, 0, 0, 0, 0b1);
        x.pull(0, 0, 0, 1, 0b111);
        x.pull(0, 0, 0, 2, 0b11111);
        due.is("8 no heat", x.force(2), 10);
        x.heat(19);
        due.is("8 19 by 20 is cut", x.force(0), 10);
        due.is("8 57 by 20 is cut", x.force(1), 8);
        due.is("8 95 by 20 is cut", x.force(2), 6);
        x.heat(20);
        due.is("8 20 by 20", x.force(0), 9);
        due.is("8 60 by 20", x.force(1), 7);
        due.is("8 100 by 20", x.force(2), 5);
        x.heat(40);
        due.is("8 200 by 20", x.force(2), 0);
        x.heat(0);
        x.crank(0, 4);
        x.crank(2, 3);
        x.crank(5, 9);
        due.is("8 slack of one", x.force(0), 6);
        due.is("8 slack together, of its own alone", x.force(1), 3);
        x.crank(1, 9);
        due.is("8 not below 0", x.force(1), 0);
        x.crank(1, 10);
        due.is("8 a dead one", x.force(1), 0);
        due.is("8 a dead one of others", x.force(0), 6);
        x.crank(1, 0);
        due.is("8 mended", x.force(1), 3);
        due.is("8 pull -1", x.force(-1), BAD);
        due.is("8 pull 3", x.force(3), BAD);
        for (int n : FAR_OFF) {
            due.is("8 pull far", x.force(n), BAD);
        }
    }

    private static void wouldAlone() {
        BellPulls x = new BellPulls();
        x.pull(0, 0, 0, 7, 0b1);
        due.is("9 loud", x.would(0, 7), 2);
        due.is("9 no other", x.would(0, 0), 0);
        x.crank(0, 4);
        due.is("9 loud at 6", x.would(0, 7), 2);
        x.crank(0, 5);
        due.is("9 weak at 5", x.would(0, 7), 1);
        x.crank(0, 9);
        due.is("9 weak at 1", x.would(0, 7), 1);
        x.heat(20);
        due.is("9 nothing at 0", x.would(0, 7), 0);
        x.heat(0);
        x.crank(0, 10);
        due.is("9 nothing over a dead one", x.would(0, 7), 0);
        x.crank(0, 0);
        x.bell(7, 1, 1);
        due.is("9 mute when loud", x.would(0, 7), 0);
        x.crank(0, 5);
        due.is("9 mute when weak", x.would(0, 7), 0);
        due.is("9 it changes nothing", x.swings(-1) + x.count(3) + x.count(5), 0);
        due.is("9 pull -1", x.would(-1, 0), BAD);
        due.is("9 pull 1", x.would(1, 0), BAD);
        due.is("9 bell -1", x.would(0, -1), BAD);
        due.is("9 bell 8", x.would(0, 8), BAD);
        for (int n : FAR_OFF) {
            due.is("9 pull far", x.would(n, 0), BAD);
            due.is("9 bell far", x.would(0, n), BAD);
        }
    }

    private static void wouldCrossed() {
        BellPulls x = new BellPulls();
        x.pull(0, 0, 0, 0, 0b11);
        x.pull(0, 0, 0, 1, 0b1100);
        x.pull(0, 0, 0, 0, 0b100);
        x.pull(0, 0, 0, 2, 0b11);
        x.pull(0, 0, 0, 3, 0b1000000);
        due.is("9 not crossed", x.would(0, 1), 0);
        x.cross(2, 1);
        x.cross(3, 6);
        due.is("9 crossed", x.would(0, 1), 1);
        due.is("9 crossed back", x.would(1, 0), 1);
        due.is("9 crossed back to the other", x.would(1, 2), 1);
        due.is("9 its own stays loud", x.would(0, 0), 2);
        due.is("9 a crank in common is no crossing", x.would(0, 2), 0);
        due.is("9 no further than one crossing", x.would(0, 3), 0);
        due.is("9 one bell of two pulls stays loud", x.would(2, 0), 2);
        x.crank(1, 4);
        due.is("9 at 6 it pulls along", x.would(0, 1), 1);
        x.crank(1, 5);
        due.is("9 at 5 it does not", x.would(0, 1), 0);
        due.is("9 slack of the other is no matter", x.would(1, 2), 1);
        x.crank(1, 0);
        x.crank(3, 10);
        due.is("9 the other's dead crank, though not the crossed", x.would(0, 1), 0);
        x.crank(3, 9);
        x.crank(2, 9);
        due.is("9 the other's force is no matter", x.would(0, 1), 1);
        x.bell(1, 1, 1);
        due.is("9 the other's bell is mute", x.would(0, 1), 0);
        x.bell(1, 1, 0);
        x.bell(0, 1, 1);
        due.is("9 its own mute bell", x.would(0, 0), 0);
        due.is("9 pulls along though its bell is mute", x.would(0, 1), 1);
        due.is("7 uncrossed", x.uncross(), 2);
        due.is("7 pulls along no more", x.would(0, 1), 0);
    }

    private static void wouldCrossedWithSeveral() {
        BellPulls x = new BellPulls();
        for (int i = 0; i < 5; i++) {
            x.pull(0, 0, 0, i, 1 << i);
        }
        x.cross(0, 1);
        x.cross(0, 2);
        x.cross(3, 0);
        for (int b = 1; b < 4; b++) {
            due.is("9 each crossed with it", x.would(0, b), 1);
            due.is("9 and it with each", x.would(b, 0), 1);
        }
        due.is("9 not with those crossed with the same", x.would(1, 2), 0);
        due.is("9 one that is not crossed", x.would(0, 4), 0);
        due.is("12 all of them", x.ring(0), 0b1111);
    }

    private static void means() {
        BellPulls x = new BellPulls();
        due.is("10 no pulls", x.means(-1, 0, -1), 0);
        x.pull(0, 0, 0, 0, 0b1);
        x.pull(0, 0, 0, 1, 0b10);
        x.pull(0, 0, 0, 2, 0b100);
        x.pull(0, 0, 0, 0, 0b1000);
        x.bell(1, 0, 5);
        x.bell(2, 0, 5);
        x.crank(1, 6);
        x.cross(0, 2);
        // pull 0: bell 0 loud, 2 weak; 1: bell 1 weak; 2: bell 2 loud, 0 weak; 3: bell 0 loud
        due.is("10 any", x.means(-1, 0, -1), 0b1111);
        due.is("10 any loud", x.means(-1, 2, -1), 0b1101);
        due.is("10 any weak", x.means(-1, 1, -1), 0b0111);
        due.is("10 tone 5", x.means(5, 0, -1), 0b0111);
        due.is("10 tone 5 loud", x.means(5, 2, -1), 0b0100);
        due.is("10 tone 5 weak", x.means(5, 1, -1), 0b0011);
        due.is("10 tone 0", x.means(0, 0, -1), 0b1101);
        due.is("10 tone 0 weak", x.means(0, 1, -1), 0b0100);
        due.is("10 tone of no pull", x.means(3, 0, -1), 0);
        due.is("10 none swings", x.means(-1, 0, 0), 0);
        due.is("10 all swing", x.means(-1, 0, 255), 0b1111);
        due.is("10 bell 2 swings", x.means(-1, 0, 0b100), 0b0101);
        due.is("10 one bell must be all of it", x.means(5, 2, 0b011), 0);
        due.is("10 bell 1 swings weakly", x.means(5, 1, 0b010), 0b0010);
        x.ring(0);
        due.is("10 what swings now is no matter", x.means(-1, 0, 0b010), 0b0010);
    }

    private static void meansBadNumbers() {
        BellPulls x = new BellPulls();
        due.is("10 tone -2", x.means(-2, 0, 0), BAD);
        due.is("10 tone 6", x.means(6, 0, 0), BAD);
        due.is("10 loud -1", x.means(0, -1, 0), BAD);
        due.is("10 loud 3", x.means(0, 3, 0), BAD);
        due.is("10 swing -2", x.means(0, 0, -2), BAD);
        due.is("10 swing 256", x.means(0, 0, 256), BAD);
        for (int n : FAR_OFF) {
            due.is("10 tone far", x.means(n, 0, 0), BAD);
            due.is("10 loud far", x.means(0, n, 0), BAD);
            due.is("10 swing far", x.means(0, 0, n), BAD);
        }
    }
}
