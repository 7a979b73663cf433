/**
 * The boundary cases of the document's part 3 and its promises 22 to 25, a test for each sentence
 * that names one; the sentence stands above its test.
 */
public final class EdgesOfFaultsTest {
    private static final int BAD = BellPulls.BAD, FULL = BellPulls.FULL, NONE = BellPulls.NONE;
    private static final int MIN = Integer.MIN_VALUE, MAX = Integer.MAX_VALUE;
    private static final int LOUD = 2, WEAK = 1, NOTHING = 0, GAP = -1;
    private static final Due due = new Due();
    private static final Refusals refused = new Refusals(due);

    public static void main(String[] args) {
        testsAre12AtMost();
        testOfAPullThatIsThere();
        heatOfATestIs0To40();
        outcomeIsGapToLoud();
        gapTellsNothing();
        noTestsAnswersHowManyWere();
        faults0To15AreDeadCranks();
        faults16To159AreSlackCranks();
        faults160To167AreMuteBells();
        faultsByNumbers();
        noFaultBelowTheFirst();
        noTestAtAll();
        explainsAlone();
        explainsEachTest();
        explainsAtTheEdgesOfForce();
        noForceInTheTest();
        nextTestOfNoPulls();
        nextTestOfNoFaultOrOne();
        nextTestOfTwoFaults();
        nextTestTies();
        nextTestByTheHeatNow();
        nextTestCountsAllThreeOutcomes();
        due.end();
    }

    private static BellPulls onePull(int bell, int cranks) {
        BellPulls x = new BellPulls();
        x.pull(0, 0, 0, bell, cranks);
        return x;
    }

    /** The faults that explain are these and no other. */
    private static void explain(String what, BellPulls x, int... faults) {
        due.is(what + ", how many", x.fault(-1), faults.length);
        for (int i = 0; i < faults.length; i++) {
            due.is(what + ", the " + i + "th", x.fault(i), faults[i]);
        }
        due.is(what + ", no more", x.fault(faults.length), NONE);
    }

    // "TESTS, 12 at most"; "A TEST: how many. BAD; FULL."
    private static void testsAre12AtMost() {
        BellPulls x = onePull(0, 1);
        for (int i = 1; i <= 11; i++) {
            due.is("22 how many", x.test(0, 0, GAP), i);
        }
        due.is("22 the last that finds room", x.test(0, 0, LOUD), 12);
        int left = x.fault(-1);
        due.is("22 the first that does not", x.test(0, 0, NOTHING), FULL);
        due.is("22 nor a gap", x.test(0, 0, GAP), FULL);
        due.is("22 it tells nothing", x.fault(-1), left);
        due.is("28 twelve", x.count(6), 12);
        refused.in(House.FULL, FULL, "test 0 0 0", "test 11 40 2", "test 0 0 -1");
        refused.in(House.FULL, BAD, "test 12 0 0", "test 0 41 0", "test 0 0 3", "test -1 -1 -2");
    }

    // "a PULL"
    private static void testOfAPullThatIsThere() {
        refused.in(House.NEW, BAD, "test 0 0 0", "test 0 0 -1");
        refused.in(House.AT_WORK, BAD, "test 6 0 0", "test 6 0 -1");
        refused.with(BAD, "test ? 0 0", -1, 12, 13, 16, MIN, MIN + 1, MAX);
        BellPulls x = new BellPulls();
        for (int i = 0; i < 12; i++) {
            x.pull(0, 0, 0, 0, 1 << i);
        }
        due.is("22 the last pull", x.test(11, 0, WEAK), 1);
        due.is("24 of its crank", x.fault(0), 16 + 9 * 11 + 4);
    }

    // "HEAT"
    private static void heatOfATestIs0To40() {
        refused.with(BAD, "test 0 ? 0", -1, -2, 41, 42, 64, MIN, MIN + 1, MAX);
        BellPulls x = onePull(0, 0b11111);
        due.is("22 the least", x.test(0, 0, WEAK), 1);
        due.is("24 in no heat", x.fault(-1), 5 * 5);
        x.noTests();
        due.is("22 the greatest", x.test(0, 40, NOTHING), 1);
        due.is("24 in the greatest", x.fault(-1), 168);
        due.is("4 the heat now is no other", x.heat(0), 0);
    }

    // "for its own BELL LOUD (2), WEAK (1), nothing (0), or a GAP (-1)"
    private static void outcomeIsGapToLoud() {
        refused.with(BAD, "test 0 0 ?", -2, -3, 3, 4, MIN, MIN + 1, MAX);
        refused.everywhere(BAD, "test -1 41 3", "test 12 -1 -2", "test MIN MIN MIN");
        int[] left = {168, 1 + 1, 5, 168 - 7};
        for (int outcome = GAP; outcome <= LOUD; outcome++) {
            BellPulls x = onePull(0, 1);
            due.is("22 outcome " + outcome, x.test(0, 0, outcome), 1);
            due.is("24 outcome " + outcome, x.fault(-1), left[outcome + 1]);
        }
    }

    // "each TEST that is no GAP"
    private static void gapTellsNothing() {
        BellPulls x = onePull(0, 1);
        for (int i = 0; i < 12; i++) {
            x.test(0, i, GAP);
        }
        due.is("24 twelve gaps", x.fault(-1), 168);
        due.is("28 they are tests", x.count(6), 12);
        due.is("23 they were tests", x.noTests(), 12);
    }

    // "No TESTS: how many were."
    private static void noTestsAnswersHowManyWere() {
        BellPulls x = onePull(0, 1);
        due.is("23 none yet", x.noTests(), 0);
        for (int many = 1; many <= 12; many++) {
            for (int i = 0; i < many; i++) {
                x.test(0, 0, i % 3);
            }
            due.is("23 how many were", x.noTests(), many);
            due.is("23 none are now", x.count(6), 0);
            due.is("23 all explain", x.fault(-1), 168);
            due.is("23 by their numbers", x.fault(167), 167);
        }
    }

    // "0 to 15 a CRANK is DEAD"
    private static void faults0To15AreDeadCranks() {
        for (int crank = 0; crank < 16; crank++) {
            BellPulls x = onePull(3, 1 << crank);
            x.test(0, 0, NOTHING);
            explain("24 crank " + crank, x, crank, 163);
        }
    }

    // "16 + 9 c + s - 1 CRANK c is SLACK by s"
    private static void faults16To159AreSlackCranks() {
        for (int crank = 0; crank < 16; crank++) {
            BellPulls x = onePull(3, 1 << crank);
            x.test(0, 0, WEAK);
            int first = 16 + 9 * crank - 1;
            explain("24 slack of crank " + crank, x,
                    first + 5, first + 6, first + 7, first + 8, first + 9);
            x.noTests();
            x.test(0, 20, NOTHING);
            // force 9: slack by 9 is the only one that leaves nothing
            explain("24 slack by 9 of crank " + crank, x, crank, first + 9, 163);
        }
        BellPulls x = onePull(0, 0b11111);
        x.test(0, 16, WEAK);
        // 80 by 20: force 6, so that any slack from 1 to 5 is weak
        due.is("24 slack by 1 is the first of a crank", x.fault(0), 16);
        due.is("24 slack by 5", x.fault(4), 20);
        due.is("24 slack by 1 of crank 1", x.fault(5), 25);
        BellPulls last = onePull(0, 1 << 15);
        last.test(0, 0, WEAK);
        due.is("24 the last slack fault", last.fault(4), 159);
    }

    // "160 + b BELL b is MUTE"
    private static void faults160To167AreMuteBells() {
        for (int bell = 0; bell < 8; bell++) {
            BellPulls x = onePull(bell, 0b1);
            x.pull(0, 0, 0, bell, 0b10);
            x.test(0, 0, NOTHING);
            x.test(1, 0, NOTHING);
            explain("24 bell " + bell, x, 160 + bell);
        }
    }

    // "How many FAULTS EXPLAIN (i = -1), the i-th by numbers (NONE)."
    private static void faultsByNumbers() {
        BellPulls x = onePull(7, 0b101);
        x.test(0, 0, NOTHING);
        due.is("24 how many", x.fault(-1), 3);
        due.is("24 the 0th", x.fault(0), 0);
        due.is("24 the 1st", x.fault(1), 2);
        due.is("24 the last", x.fault(2), 167);
        due.is("24 the first that is not", x.fault(3), NONE);
        due.is("24 none 167th", x.fault(167), NONE);
        due.is("24 none 168th", x.fault(168), NONE);
        due.is("24 none as far as can be", x.fault(MAX), NONE);
        BellPulls all = new BellPulls();
        due.is("24 the last of all", all.fault(167), 167);
        due.is("24 none behind all", all.fault(168), NONE);
        due.is("24 none far behind all", all.fault(MAX), NONE);
    }

    // "BAD."
    private static void noFaultBelowTheFirst() {
        refused.with(BAD, "fault ?", -2, -3, -168, MIN, MIN + 1);
        BellPulls none = onePull(0, 1);
        none.test(0, 0, NOTHING);
        none.test(0, 0, LOUD);
        due.is("24 none explains", none.fault(-1), 0);
        due.is("24 not even a 0th", none.fault(0), NONE);
        due.is("24 bad though none explains", none.fault(-2), BAD);
    }

    // "A FAULT EXPLAINS, if .. each TEST .. comes so" - with none, all do
    private static void noTestAtAll() {
        BellPulls x = new BellPulls();
        due.is("24 all of none", x.fault(-1), 168);
        x.pull(0, 0, 0, 0, 1);
        due.is("24 all, with a pull", x.fault(-1), 168);
    }

    // "with it alone (all else GOOD, WELL, by nothing CROSSED)"
    private static void explainsAlone() {
        BellPulls x = onePull(0, 0b1);
        x.pull(0, 0, 0, 1, 0b10);
        x.crank(0, 10);
        x.crank(1, 9);
        x.bell(0, 1, 1);
        x.bell(1, 1, 1);
        x.heat(40);
        x.cross(0, 1);
        x.test(0, 0, LOUD);
        due.is("24 loud for all but seven", x.fault(-1), 168 - 7);
        x.test(1, 0, LOUD);
        due.is("24 loud for all but fourteen", x.fault(-1), 168 - 14);
        x.noTests();
        x.test(1, 0, NOTHING);
        explain("24 not pulled along by the other", x, 1, 161);
        x.test(0, 0, LOUD);
        explain("24 nor is the other harmed", x, 1, 161);
    }

    // "each TEST that is no GAP comes so"
    private static void explainsEachTest() {
        BellPulls x = onePull(0, 0b11);
        x.pull(0, 0, 0, 0, 0b10);
        x.pull(0, 0, 0, 0, 0b100);
        x.test(0, 0, NOTHING);
        explain("24 after one", x, 0, 1, 160);
        x.test(1, 0, NOTHING);
        explain("24 after two", x, 1, 160);
        for (int i = 3; i <= 11; i++) {
            x.test(0, i - 3, GAP);
        }
        due.is("22 the twelfth", x.test(2, 0, LOUD), 12);
        explain("24 the twelfth tells, too", x, 1);
        x.test(2, 0, NOTHING);
        explain("24 the thirteenth does not", x, 1);
    }

    // the edges of "LOUD, if FORCE is 6 at least", "WEAK if FORCE is 1 to 5" in a TEST
    private static void explainsAtTheEdgesOfForce() {
        BellPulls x = onePull(0, 0b1);
        x.test(0, 39, LOUD);
        // 39 by 20 is cut to 1: force 9, so slack by 3 is loud, by 4 weak
        due.is("24 slack by 3 is loud", x.fault(15 + 3 - 1), 18);
        due.is("24 slack by 4 is not", x.fault(15 + 3), 25);
        x.noTests();
        x.test(0, 40, LOUD);
        due.is("24 slack by 2 is loud", x.fault(15 + 2 - 1), 17);
        due.is("24 slack by 3 is not", x.fault(15 + 2), 25);
        x.noTests();
        x.test(0, 40, WEAK);
        explain("24 slack by 3 to 7 is weak", x, 18, 19, 20, 21, 22);
        x.noTests();
        x.test(0, 40, NOTHING);
        explain("24 slack by 8 and 9 is nothing", x, 0, 23, 24, 160);
    }

    // "none (0), if .. it is below 0" in a TEST
    private static void noForceInTheTest() {
        BellPulls x = onePull(0, 0b11111);
        x.test(0, 40, NOTHING);
        due.is("24 all explain nothing", x.fault(-1), 168);
        x.test(0, 40, WEAK);
        due.is("24 none explains more", x.fault(-1), 0);
        x.noTests();
        x.test(0, 39, WEAK);
        // 195 by 20 is 9: force 1, which any slack of its cranks takes away
        due.is("24 force 1", x.fault(-1), 168 - 5 - 45 - 1);
    }

    // "THE NEXT TEST. NONE." - no PULLS to choose of
    private static void nextTestOfNoPulls() {
        due.is("25 no pulls", new BellPulls().nextTest(), NONE);
    }

    // "none, if no FAULT, or one, EXPLAINS"
    private static void nextTestOfNoFaultOrOne() {
        BellPulls x = onePull(0, 0b1);
        x.pull(0, 0, 0, 0, 0b10);
        due.is("25 all explain", x.nextTest(), 0);
        x.test(0, 0, NOTHING);
        x.test(1, 0, NOTHING);
        due.is("24 one", x.fault(-1), 1);
        due.is("25 one explains", x.nextTest(), NONE);
        x.test(0, 0, LOUD);
        due.is("24 none", x.fault(-1), 0);
        due.is("25 none explains", x.nextTest(), NONE);
        x.noTests();
        due.is("25 all explain again", x.nextTest(), 0);
    }

    // ".. or one": with two there is a test, though it may part nothing
    private static void nextTestOfTwoFaults() {
        BellPulls x = onePull(0, 0b1);
        x.test(0, 0, NOTHING);
        due.is("24 two", x.fault(-1), 2);
        due.is("25 though it parts nothing", x.nextTest(), 0);
        x.pull(0, 0, 0, 1, 0b1);
        due.is("25 the one that parts them", x.nextTest(), 1);
    }

    // "of several the lowest"
    private static void nextTestTies() {
        BellPulls x = new BellPulls();
        for (int i = 0; i < 12; i++) {
            x.pull(0, 0, 0, i % 8, 1 << i);
        }
        due.is("25 the lowest of twelve alike", x.nextTest(), 0);
        BellPulls y = new BellPulls();
        for (int i = 0; i < 10; i++) {
            y.pull(0, 0, 0, i % 8, 1 << i);
        }
        y.pull(0, 0, 0, 0, 0b11 << 10);
        y.pull(0, 0, 0, 0, 0b11 << 12);
        due.is("25 the lower of the two last", y.nextTest(), 10);
        BellPulls z = new BellPulls();
        for (int i = 0; i < 11; i++) {
            z.pull(0, 0, 0, i % 8, 1 << i);
        }
        z.pull(0, 0, 0, 0, 0b11 << 11);
        due.is("25 the last alone", z.nextTest(), 11);
    }

    // "of PULLS by HEAT as it is now"
    private static void nextTestByTheHeatNow() {
        BellPulls x = onePull(0, 0b1);
        x.pull(0, 0, 0, 1, 0b11111);
        x.test(0, 0, WEAK);
        // slack by 5 to 9 of crank 0
        x.heat(3);
        due.is("25 15 by 20 is nothing: all weak by both", x.nextTest(), 0);
        x.heat(4);
        due.is("25 20 by 20: slack by 9 is nothing by pull 1", x.nextTest(), 1);
        x.heat(20);
        due.is("25 slack by 9 is nothing by pull 0, all by pull 1", x.nextTest(), 0);
        x.heat(0);
        due.is("25 no heat", x.nextTest(), 0);
    }

    // "the greatest number of FAULTS that EXPLAIN and would come alike (of LOUD, WEAK, nothing)
    // is least"
    private static void nextTestCountsAllThreeOutcomes() {
        BellPulls x = onePull(0, 0b1);
        x.pull(0, 0, 0, 1, 0b11110);
        x.pull(0, 0, 0, 2, 0b111100000);
        // loud, weak, nothing: pull 0 161 5 2, pull 1 143 20 5, pull 2 143 20 5
        due.is("25 the fewest that come loud", x.nextTest(), 1);
        x.heat(40);
        // pull 0 has force 8: 159 5 4; pulls 1 and 2 have force 2: 0 131 37
        due.is("25 the fewest that come weak", x.nextTest(), 1);
        BellPulls y = onePull(0, 0b11111);
        y.pull(0, 0, 0, 1, 0b1);
        y.heat(40);
        due.is("25 all come to nothing by the first", y.nextTest(), 1);
        // slack by 5 to 9 of crank 0; five cranks have force 7, four have 8, one has 10
        due.is("25 3 nothing are as many as 3 weak", afterWeak(0b11111, 0b1111), 1);
        due.is("25 3 weak are as many as 3 nothing", afterWeak(0b1111, 0b11111), 1);
        due.is("25 5 weak are more than 3 nothing", afterWeak(0b1, 0b11111), 2);
        due.is("25 5 weak are more than 3 weak", afterWeak(0b1, 0b1111), 2);
    }

    private static int afterWeak(int cranks, int otherCranks) {
        BellPulls x = onePull(0, 0b1);
        x.test(0, 0, WEAK);
        x.pull(0, 0, 0, 0, cranks);
        x.pull(0, 0, 0, 0, otherCranks);
        x.heat(12);
        return x.nextTest();
    }
}
