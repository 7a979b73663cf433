/**
 * The boundary cases of the document's part 4 and its promises 26 to 28, a test for each sentence
 * that names one; the sentence stands above its test.
 */
public final class EdgesOfFrameTest {
    private static final int BAD = BellPulls.BAD, NONE = BellPulls.NONE;
    private static final int MIN = Integer.MIN_VALUE, MAX = Integer.MAX_VALUE;
    private static final Due due = new Due();
    private static final Refusals refused = new Refusals(due);

    public static void main(String[] args) {
        pointsAre0To23();
        sideBySideOrAbove();
        noWayRoundTheEndOfAFloor();
        notBesideItself();
        betweenIsNothingWallOrWire();
        betweenAnswersWhatThereWas();
        bothWaysAreOne();
        pointsAsBits();
        pointsAre1To5();
        onePointNeedsNoWire();
        twoPointsInTheOpen();
        fivePointsInTheOpen();
        aPointAndThoseBesideIt();
        wallsHinder();
        noneIfItCantBe();
        wiresThereAreCostNothing();
        theWholeFrameWired();
        askingLaysNoWire();
        countIs0To8();
        countAtTheirLimits();
        countOfWires();
        countOfTakenBack();
        due.end();
    }

    private static int set(int... points) {
        int bits = 0;
        for (int point : points) {
            bits |= 1 << point;
        }
        return bits;
    }

    private static boolean areBeside(int a, int b) {
        return Math.abs(a / 6 - b / 6) + Math.abs(a % 6 - b % 6) == 1;
    }

    /** Puts this between all points that lie side by side. */
    private static BellPulls all(int v) {
        BellPulls x = new BellPulls();
        for (int a = 0; a < 24; a++) {
            for (int b = a + 1; b < 24; b++) {
                if (areBeside(a, b)) {
                    x.frame(a, b, v);
                }
            }
        }
        return x;
    }

    // "THE FRAME has 24 POINTS"
    private static void pointsAre0To23() {
        BellPulls x = new BellPulls();
        due.is("26 the first", x.frame(0, 1, 2), 0);
        due.is("26 the last", x.frame(22, 23, 1), 0);
        due.is("26 the last, above", x.frame(23, 17, 2), 0);
        refused.with(BAD, "frame ? 0 2", -1, -6, 24, 25, 32, MIN, MIN + 1, MAX);
        refused.with(BAD, "frame 0 ? 2", -1, -6, 24, 25, 33, MIN, MIN + 1, MAX);
        refused.everywhere(BAD, "frame 23 24 1", "frame 24 23 1", "frame 18 24 1", "frame 24 18 1",
                "frame 23 29 1", "frame 24 25 1", "frame -1 -2 1", "frame MAX MIN 1", "frame MIN MAX 1");
    }

    // "Between two side by side, or one above the other"; "BAD: not side by side."
    private static void sideBySideOrAbove() {
        for (int a = 0; a < 24; a++) {
            BellPulls x = new BellPulls();
            for (int b = 0; b < 24; b++) {
                due.is("26 " + a + " " + b, x.frame(a, b, 2), areBeside(a, b) ? 0 : BAD);
            }
        }
        refused.everywhere(BAD, "frame 0 2 1", "frame 0 7 1", "frame 7 0 2", "frame 1 6 2",
                "frame 0 12 2", "frame 0 18 1", "frame 0 23 1", "frame 9 14 1");
    }

    // "(4 FLOORS of 6: POINT = 6 FLOOR + column)"
    private static void noWayRoundTheEndOfAFloor() {
        refused.everywhere(BAD, "frame 5 6 0", "frame 6 5 1", "frame 11 12 2", "frame 12 11 2",
                "frame 17 18 1", "frame 18 17 1", "frame 0 5 2", "frame 23 18 2");
        BellPulls x = new BellPulls();
        due.is("27 from 5 to 6", x.wires(set(5, 6)), 6);
        due.is("27 from 17 to 18", x.wires(set(17, 18)), 6);
        due.is("27 from 0 to 23", x.wires(set(0, 23)), 8);
    }

    // "two POINTS"
    private static void notBesideItself() {
        for (int point = 0; point < 24; point++) {
            refused.everywhere(BAD, "frame " + point + " " + point + " 2");
        }
    }

    // "there is nothing (0), a WALL (1), WIRE (2)"
    private static void betweenIsNothingWallOrWire() {
        BellPulls x = new BellPulls();
        for (int v = 0; v <= 2; v++) {
            due.is("26 taken " + v, x.frame(3, 4, v), Math.max(v - 1, 0));
        }
        refused.with(BAD, "frame 0 1 ?", -1, -2, 3, 4, 256, MIN, MIN + 1, MAX);
        refused.with(BAD, "frame 23 17 ?", -1, 3, MIN, MAX);
        refused.everywhere(BAD, "frame 0 2 3", "frame -1 24 -1", "frame MIN MIN MIN");
    }

    // "what there was"
    private static void betweenAnswersWhatThereWas() {
        BellPulls x = new BellPulls();
        int was = 0;
        for (int v : new int[] {2, 2, 0, 1, 1, 2, 1, 0, 0}) {
            due.is("26 side by side", x.frame(10, 11, v), was);
            due.is("26 above", x.frame(11, 17, v), was);
            was = v;
        }
    }

    // "Between two POINTS" - as well told from the one as from the other
    private static void bothWaysAreOne() {
        BellPulls x = new BellPulls();
        x.frame(0, 1, 1);
        due.is("26 from the other", x.frame(1, 0, 2), 1);
        due.is("26 from the one", x.frame(0, 1, 0), 2);
        x.frame(6, 0, 2);
        due.is("26 from below", x.frame(0, 6, 1), 2);
        due.is("26 from above", x.frame(6, 0, 0), 1);
        x.frame(7, 8, 2);
        due.is("26 not of the neighbours", x.frame(6, 7, 0) + x.frame(8, 9, 0), 0);
        due.is("26 nor above or below", x.frame(1, 7, 0) + x.frame(7, 13, 0), 0);
    }

    // "NEW WIRES for a set of POINTS"
    private static void pointsAsBits() {
        refused.with(BAD, "wires ?", 1 << 24, 1 << 24 | 1, 1 << 25, 1 << 30, MIN, MIN | 1);
        refused.with(BAD, "wires ?", -1, -2, -16777216, MAX);
        BellPulls x = new BellPulls();
        due.is("27 the last points", x.wires(set(22, 23)), 1);
        due.is("27 the first points", x.wires(set(0, 1)), 1);
    }

    // "(1 to 5 of them)"
    private static void pointsAre1To5() {
        refused.with(BAD, "wires ?", 0, 0b111111, set(0, 4, 8, 12, 16, 20), set(18, 19, 20, 21, 22, 23));
        refused.with(BAD, "wires ?", 0b1111111, (1 << 24) - 1);
        BellPulls x = new BellPulls();
        due.is("27 one", x.wires(1), 0);
        due.is("27 five", x.wires(set(19, 20, 21, 22, 23)), 4);
        BellPulls walled = all(1);
        due.is("27 bad though it can't be", walled.wires(0b111111), BAD);
        BellPulls wired = all(2);
        due.is("27 bad though they hang together", wired.wires(0b111111), BAD);
        due.is("27 nothing to hang together", wired.wires(0), BAD);
    }

    // "(1 ..": one point hangs together with itself
    private static void onePointNeedsNoWire() {
        BellPulls open = new BellPulls();
        BellPulls walled = all(1);
        for (int point = 0; point < 24; point++) {
            due.is("27 one in the open", open.wires(1 << point), 0);
            due.is("27 one behind walls", walled.wires(1 << point), 0);
        }
    }

    // "the fewest of such steps"
    private static void twoPointsInTheOpen() {
        for (int a = 0; a < 24; a++) {
            BellPulls x = new BellPulls();
            for (int b = 0; b < 24; b++) {
                int steps = Math.abs(a / 6 - b / 6) + Math.abs(a % 6 - b % 6);
                due.is("27 " + a + " and " + b, x.wires(set(a, b)), steps);
            }
        }
    }

    // "(.. to 5 of them)": with branches at points that are not of the set
    private static void fivePointsInTheOpen() {
        BellPulls x = new BellPulls();
        due.is("27 corners", x.wires(set(0, 5, 18, 23)), 11);
        due.is("27 corners and one on the way", x.wires(set(0, 5, 18, 23, 8)), 11);
        due.is("27 round a point", x.wires(set(7, 2, 9, 14)), 4);
        due.is("27 round a point and it", x.wires(set(7, 2, 9, 14, 8)), 4);
        due.is("27 two branches", x.wires(set(0, 12, 5, 17, 20)), 10);
    }

    // "all of the set hang together" - by any point of it, a corner, too
    private static void aPointAndThoseBesideIt() {
        BellPulls x = new BellPulls();
        for (int point = 0; point < 24; point++) {
            int beside = 0;
            for (int other = 0; other < 24; other++) {
                beside |= areBeside(point, other) ? 1 << other : 0;
            }
            int many = Integer.bitCount(beside);
            due.is("27 with " + point, x.wires(beside | 1 << point), many);
            due.is("27 round " + point, x.wires(beside), many);
        }
    }

    // "WIRE may go, if no WALL is there"
    private static void wallsHinder() {
        BellPulls x = new BellPulls();
        due.is("27 no wall", x.wires(set(0, 1)), 1);
        x.frame(0, 1, 1);
        due.is("27 round one wall", x.wires(set(0, 1)), 3);
        x.frame(6, 7, 1);
        due.is("27 round two walls", x.wires(set(0, 1)), 5);
        x.frame(12, 13, 1);
        due.is("27 round three walls", x.wires(set(0, 1)), 7);
        x.frame(0, 1, 0);
        due.is("27 the wall is gone", x.wires(set(0, 1)), 1);
    }

    // "NONE: it can't be"
    private static void noneIfItCantBe() {
        BellPulls x = new BellPulls();
        x.frame(0, 1, 1);
        x.frame(0, 6, 1);
        for (int point = 1; point < 24; point++) {
            due.is("27 out of the corner", x.wires(set(0, point)), NONE);
        }
        due.is("27 the others can", x.wires(set(1, 6, 23)), 8);
        due.is("27 one of five can't", x.wires(set(0, 1, 2, 3, 4)), NONE);
        due.is("27 four of five can", x.wires(set(1, 2, 3, 4)), 3);
        x.frame(0, 6, 2);
        due.is("27 a wire leads out", x.wires(set(0, 1)), 2);
        BellPulls y = new BellPulls();
        for (int column = 0; column < 6; column++) {
            y.frame(6 + column, 12 + column, 1);
        }
        due.is("27 two halves", y.wires(set(0, 23)), NONE);
        due.is("27 two in one half, one in the other", y.wires(set(0, 5, 23)), NONE);
        due.is("27 the lower half", y.wires(set(0, 5, 6, 11)), 7);
        due.is("27 the upper half", y.wires(set(12, 17, 18, 23)), 7);
        BellPulls walled = all(1);
        due.is("27 all walls", walled.wires(set(0, 1, 2, 3, 4)), NONE);
    }

    // "steps without WIRE .. hang together by them and the WIRES there are"
    private static void wiresThereAreCostNothing() {
        BellPulls x = new BellPulls();
        x.frame(0, 1, 2);
        due.is("27 one wire", x.wires(set(0, 1)), 0);
        due.is("27 one wire and one step", x.wires(set(0, 2)), 1);
        due.is("27 one above each", x.wires(set(6, 7)), 1);
        for (int point : new int[] {0, 6, 12}) {
            x.frame(point, point + 6, 2);
        }
        for (int point = 18; point < 23; point++) {
            x.frame(point, point + 1, 2);
        }
        due.is("27 all along", x.wires(set(1, 23)), 0);
        due.is("27 rather than the one step", x.wires(set(1, 7, 13, 23)), 2);
        x.frame(12, 18, 0);
        due.is("27 a gap in it", x.wires(set(1, 23)), 1);
        x.frame(12, 18, 1);
        due.is("27 round a wall in it, by 13", x.wires(set(1, 23)), 2);
    }

    // the greatest number of WIRES there can be: 4 * 5 and 3 * 6
    private static void theWholeFrameWired() {
        BellPulls x = all(2);
        due.is("28 thirty-eight", x.count(7), 38);
        due.is("27 nothing is new", x.wires(set(0, 5, 18, 23, 9)), 0);
        x = all(1);
        due.is("28 walls are none", x.count(7), 0);
    }

    // "how many" - they are told, not laid
    private static void askingLaysNoWire() {
        BellPulls x = new BellPulls();
        due.is("27 asked", x.wires(set(0, 23)), 8);
        due.is("28 none laid", x.count(7), 0);
        due.is("27 asked again", x.wires(set(0, 23)), 8);
        due.is("26 nothing there", x.frame(0, 1, 0) + x.frame(0, 6, 0), 0);
    }

    // "How many: 0 PULLS, .., 8 TAKEN BACK. BAD."
    private static void countIs0To8() {
        refused.with(BAD, "count ?", -1, -2, 9, 10, 16, MIN, MIN + 1, MAX);
        BellPulls x = new BellPulls();
        for (int what = 0; what <= 8; what++) {
            due.is("28 nothing yet " + what, x.count(what), 0);
        }
    }

    // "0 PULLS, 1 SERVANTS, 2 TICKS, 3 that WAIT, 4 on ERRANDS, 5 FLAGS set, 6 TESTS"
    private static void countAtTheirLimits() {
        BellPulls x = House.FULL.furnished();
        x.pull(0, 0, 0, 0, 1);
        x.servant(0, 0, 1);
        x.ticks(200);
        x.test(0, 0, 0);
        int[] want = {12, 5, 4900, 7, 5, 12, 12, 20, 0};
        for (int what = 0; what <= 8; what++) {
            due.is("28 full, " + what, x.count(what), want[what]);
        }
        BellPulls all = new BellPulls();
        for (int i = 0; i < 12; i++) {
            all.pull(0, 0, 0, 0, 1);
            all.ring(i);
            due.is("28 wait", all.count(3), i + 1);
            due.is("28 flags", all.count(5), i + 1);
        }
    }

    // "7 WIRES"
    private static void countOfWires() {
        BellPulls x = new BellPulls();
        x.frame(0, 1, 2);
        due.is("28 one", x.count(7), 1);
        x.frame(1, 0, 2);
        due.is("28 the same", x.count(7), 1);
        x.frame(17, 23, 2);
        due.is("28 two", x.count(7), 2);
        x.frame(0, 1, 1);
        due.is("28 a wall for a wire", x.count(7), 1);
        x.frame(17, 23, 0);
        due.is("28 none", x.count(7), 0);
    }

    // "8 TAKEN BACK"
    private static void countOfTakenBack() {
        BellPulls x = new BellPulls();
        x.pull(0, 0, 0, 0, 1);
        x.takeBack(0);
        due.is("28 refused does not count", x.count(8), 0);
        for (int i = 1; i <= 20; i++) {
            x.ring(0);
            x.takeBack(0);
            due.is("28 each time", x.count(8), i);
        }
    }
}
