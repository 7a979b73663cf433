/** Promises 26 to 28: the frame, new wires, counts. */
public final class FrameTest {
    private static final int BAD = BellPulls.BAD, NONE = BellPulls.NONE;
    private static final int[] FAR_OFF = {Integer.MIN_VALUE, Integer.MAX_VALUE};
    private static final Due due = new Due();

    public static void main(String[] args) {
        everyPair();
        frameNumbers();
        wiresNumbers();
        wiresInTheOpen();
        wiresRoundWalls();
        wiresByWires();
        wiresBranch();
        counts();
        due.end();
    }

    private static int set(int... points) {
        int bits = 0;
        for (int p : points) {
            bits |= 1 << p;
        }
        return bits;
    }

    private static void everyPair() {
        BellPulls x = new BellPulls();
        for (int a = 0; a < 24; a++) {
            for (int b = 0; b < 24; b++) {
                int floors = Math.abs(a / 6 - b / 6);
                int columns = Math.abs(a % 6 - b % 6);
                if (floors + columns == 1) {
                    due.is("26 " + a + " " + b, x.frame(a, b, 1), a < b ? 0 : 1);
                } else {
                    due.is("26 " + a + " " + b, x.frame(a, b, 1), BAD);
                }
            }
        }
        for (int p = 1; p < 24; p++) {
            due.is("27 walls all round", x.wires(set(0, p)), NONE);
        }
        due.is("28 walls are no wires", x.count(7), 0);
    }

    private static void frameNumbers() {
        BellPulls x = new BellPulls();
        due.is("26 wire", x.frame(0, 1, 2), 0);
        due.is("26 it was wire", x.frame(1, 0, 1), 2);
        due.is("26 it was a wall", x.frame(0, 1, 0), 1);
        due.is("26 above", x.frame(17, 23, 2), 0);
        due.is("26 below", x.frame(23, 17, 2), 2);
        due.is("26 v -1", x.frame(0, 1, -1), BAD);
        due.is("26 v 3", x.frame(0, 1, 3), BAD);
        due.is("26 a -1", x.frame(-1, 0, 0), BAD);
        due.is("26 b -1", x.frame(0, -1, 0), BAD);
        due.is("26 a 24", x.frame(24, 23, 0), BAD);
        due.is("26 b 24", x.frame(18, 24, 0), BAD);
        due.is("26 -6", x.frame(-6, 0, 0), BAD);
        due.is("26 the same", x.frame(3, 3, 0), BAD);
        for (int n : FAR_OFF) {
            due.is("26 a far", x.frame(n, 0, 0), BAD);
            due.is("26 b far", x.frame(0, n, 0), BAD);
            due.is("26 v far", x.frame(0, 1, n), BAD);
        }
        due.is("26 nothing changed", x.frame(0, 1, 0), 0);
        due.is("28 one wire", x.count(7), 1);
        x.frame(0, 6, 2);
        x.frame(0, 6, 2);
        due.is("28 two wires", x.count(7), 2);
        x.frame(0, 6, 1);
        due.is("28 one again", x.count(7), 1);
    }

    private static void wiresNumbers() {
        BellPulls x = new BellPulls();
        due.is("27 no points", x.wires(0), BAD);
        due.is("27 -1", x.wires(-1), BAD);
        due.is("27 point 24", x.wires(1 << 24), BAD);
        due.is("27 point 24 and 0", x.wires(1 << 24 | 1), BAD);
        due.is("27 six points", x.wires(set(0, 1, 2, 3, 4, 5)), BAD);
        due.is("27 all points", x.wires((1 << 24) - 1), BAD);
        for (int n : FAR_OFF) {
            due.is("27 far", x.wires(n), BAD);
        }
        for (int p = 0; p < 24; p++) {
            due.is("27 one point", x.wires(1 << p), 0);
        }
        due.is("27 five points", x.wires(set(0, 1, 2, 3, 4)), 4);
    }

    private static void wiresInTheOpen() {
        BellPulls x = new BellPulls();
        for (int a = 0; a < 24; a++) {
            for (int b = a + 1; b < 24; b++) {
                int far = Math.abs(a / 6 - b / 6) + Math.abs(a % 6 - b % 6);
                due.is("27 " + a + " " + b, x.wires(set(a, b)), far);
            }
        }
        due.is("27 four corners", x.wires(set(0, 5, 18, 23)), 11);
        due.is("27 a cross", x.wires(set(2, 7, 9, 14)), 4);
        due.is("27 a cross and one", x.wires(set(2, 7, 9, 14, 20)), 5);
        due.is("27 a corner", x.wires(set(0, 9, 20)), 6);
        due.is("28 none is laid by asking", x.count(7), 0);
    }

    private static void wiresRoundWalls() {
        BellPulls x = new BellPulls();
        for (int floor = 0; floor < 3; floor++) {
            x.frame(6 * floor + 2, 6 * floor + 3, 1);
        }
        due.is("27 over the top", x.wires(set(2, 3)), 7);
        due.is("27 on one side", x.wires(set(0, 2)), 2);
        x.frame(20, 21, 1);
        due.is("27 parted", x.wires(set(2, 3)), NONE);
        due.is("27 parted, more", x.wires(set(0, 1, 6, 3)), NONE);
        due.is("27 the left half", x.wires(set(0, 20, 18)), 5);
        x.frame(20, 21, 2);
        due.is("27 by the wire", x.wires(set(2, 3)), 6);
        x.frame(20, 21, 0);
        due.is("27 open again", x.wires(set(2, 3)), 7);
    }

    private static void wiresByWires() {
        BellPulls x = new BellPulls();
        x.frame(0, 1, 2);
        x.frame(1, 2, 2);
        due.is("27 hang together already", x.wires(set(0, 1, 2)), 0);
        due.is("27 one more", x.wires(set(0, 3)), 1);
        int[] ring = {0, 6, 12, 18, 19, 20, 21, 22, 23};
        for (int i = 0; i + 1 < ring.length; i++) {
            x.frame(ring[i], ring[i + 1], 2);
        }
        due.is("27 the long way costs nothing", x.wires(set(2, 23)), 0);
        due.is("27 from the end of it", x.wires(set(2, 17)), 1);
        due.is("27 in the midst", x.wires(set(9, 0)), 2);
        due.is("27 five", x.wires(set(2, 9, 16, 5, 11)), 2 + 1 + 2);
    }

    private static void wiresBranch() {
        BellPulls x = new BellPulls();
        for (int c = 0; c < 5; c++) {
            x.frame(c, c + 1, 1);
            x.frame(12 + c, 13 + c, 1);
            x.frame(18 + c, 19 + c, 1);
        }
        // only the second floor goes along: a comb
        due.is("27 comb of two", x.wires(set(0, 5)), 7);
        due.is("27 comb of three", x.wires(set(0, 2, 5)), 8);
        due.is("27 comb of four", x.wires(set(0, 2, 5, 21)), 10);
        due.is("27 comb of five", x.wires(set(0, 2, 5, 21, 22)), 12);
        x.frame(8, 9, 1);
        due.is("27 broken comb", x.wires(set(0, 5)), NONE);
        due.is("27 left of the break", x.wires(set(0, 2, 18)), 6);
    }

    private static void counts() {
        BellPulls x = new BellPulls();
        for (int i = 0; i < 7; i++) {
            x.pull(0, 0, 0, 0, 1);
        }
        for (int i = 0; i < 2; i++) {
            x.servant(0, 10, 1);
        }
        for (int i = 0; i < 6; i++) {
            x.ring(i);
        }
        x.takeBack(0);
        x.ticks(9);
        for (int i = 0; i < 5; i++) {
            x.test(0, 0, -1);
        }
        x.frame(0, 1, 2);
        x.flags(1);
        due.is("28 pulls", x.count(0), 7);
        due.is("28 servants", x.count(1), 2);
        due.is("28 ticks", x.count(2), 9);
        due.is("28 wait", x.count(3), 3);
        due.is("28 on errands", x.count(4), 2);
        due.is("28 flags", x.count(5), 5);
        due.is("28 tests", x.count(6), 5);
        due.is("28 wires", x.count(7), 1);
        due.is("28 taken back", x.count(8), 1);
        due.is("28 -1", x.count(-1), BAD);
        due.is("28 9", x.count(9), BAD);
        for (int n : FAR_OFF) {
            due.is("28 far", x.count(n), BAD);
        }
    }
}
