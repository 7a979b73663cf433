/** Promises 11 to 21: servants, rings, ticks, calls taken back, flags, what is told, sharing out. */
public final class ServiceTest {
    private static final int BAD = BellPulls.BAD, NO = BellPulls.NO, FULL = BellPulls.FULL;
    private static final int NONE = BellPulls.NONE;
    private static final int[] FAR_OFF = {Integer.MIN_VALUE, Integer.MAX_VALUE};
    private static final Due due = new Due();

    public static void main(String[] args) {
        servant();
        ringAndSwings();
        ringThatIsNotHeard();
        ticksAtTheirEnd();
        tickChoosesPull();
        tickChoosesServant();
        tickSkipsWhatNoneMayServe();
        errandIsOver();
        waitedInAll();
        takeBack();
        flags();
        badNumbers();
        way();
        shareTies();
        shareAgainstGreed();
        shareLimit();
        send();
        due.end();
    }

    private static void servant() {
        BellPulls x = new BellPulls();
        due.is("11 floor -1", x.servant(-1, 0, 0), BAD);
        due.is("11 floor 4", x.servant(4, 0, 0), BAD);
        due.is("11 place -1", x.servant(0, -1, 0), BAD);
        due.is("11 place 31", x.servant(0, 31, 0), BAD);
        due.is("11 tasks -1", x.servant(0, 0, -1), BAD);
        due.is("11 tasks 32", x.servant(0, 0, 32), BAD);
        for (int n : FAR_OFF) {
            due.is("11 floor far", x.servant(n, 0, 0), BAD);
            due.is("11 place far", x.servant(0, n, 0), BAD);
            due.is("11 tasks far", x.servant(0, 0, n), BAD);
        }
        due.is("11 none came", x.count(1), 0);
        due.is("11 edges", x.servant(3, 30, 31), 0);
        due.is("11 no tasks", x.servant(0, 0, 0), 1);
        for (int i = 2; i < 5; i++) {
            due.is("11 number", x.servant(i - 1, i, 1), i);
        }
        due.is("11 full", x.servant(0, 0, 1), FULL);
        due.is("11 bad before full", x.servant(0, 0, 32), BAD);
        due.is("11 five stay", x.count(1), 5);
        due.is("17 floor", x.servantTold(0, 0), 3);
        due.is("17 place", x.servantTold(0, 1), 30);
        due.is("17 on no errand", x.servantTold(0, 2), NONE);
        due.is("17 free", x.servantTold(0, 3), 0);
        due.is("17 no errands", x.servantTold(0, 4), 0);
        due.is("17 the last's place", x.servantTold(4, 1), 4);
    }

    private static void ringAndSwings() {
        BellPulls x = new BellPulls();
        x.pull(0, 0, 0, 0, 0b1);
        x.pull(0, 0, 0, 3, 0b10);
        x.cross(0, 1);
        due.is("12 bells of a crossed pull", x.ring(0), 0b1001);
        due.is("19 loud", x.swings(0), 8);
        due.is("19 weak", x.swings(3), 4);
        due.is("19 bits", x.swings(-1), 0b1001);
        due.is("19 still", x.swings(7), 0);
        due.is("12 the pull waits", x.about(0, 0), 1);
        due.is("12 the crossed one does not", x.about(1, 0), 0);
        due.is("12 its flag", x.about(0, 1), 1);
        due.is("12 the crossed one has none", x.about(1, 1), 0);
        x.ticks(3);
        due.is("13 swings less", x.swings(0), 5);
        due.is("13 swings less, weak", x.swings(3), 1);
        x.crank(0, 5);
        due.is("12 alone when weak", x.ring(0), 1);
        due.is("19 a weak ring lessens nothing", x.swings(0), 5);
        x.ticks(1);
        due.is("19 till 4", x.swings(0), 4);
        due.is("19 is over", x.swings(-1), 1);
        x.ticks(1);
        x.ring(0);
        due.is("19 a weak ring lifts to 4", x.swings(0), 4);
        x.crank(0, 0);
        x.ring(0);
        due.is("19 a loud ring lifts to 8", x.swings(0), 8);
        due.is("19 the other too", x.swings(3), 4);
        x.ticks(10);
        due.is("19 never below 0", x.swings(0), 0);
        due.is("19 all still", x.swings(-1), 0);
    }

    private static void ringThatIsNotHeard() {
        BellPulls x = new BellPulls();
        x.pull(0, 0, 0, 0, 0b1);
        x.pull(0, 0, 0, 1, 0b10);
        x.bell(0, 1, 1);
        due.is("12 mute", x.ring(0), 0);
        due.is("12 no call", x.about(0, 0), 0);
        due.is("12 no flag", x.count(5), 0);
        due.is("12 no swing", x.swings(-1), 0);
        x.cross(0, 1);
        due.is("12 another bell alone", x.ring(0), 0b10);
        due.is("12 makes its call", x.about(0, 0), 1);
        due.is("12 and its flag", x.about(0, 1), 1);
        due.is("12 not the other's", x.about(1, 0) + x.about(1, 1), 0);
        x.crank(1, 10);
        due.is("12 dead", x.ring(1), 0);
        due.is("12 no call of the dead", x.about(1, 0), 0);
    }

    private static void ticksAtTheirEnd() {
        BellPulls x = new BellPulls();
        due.is("13 0", x.ticks(0), BAD);
        due.is("13 -1", x.ticks(-1), BAD);
        due.is("13 201", x.ticks(201), BAD);
        for (int n : FAR_OFF) {
            due.is("13 far", x.ticks(n), BAD);
        }
        due.is("13 none went", x.count(2), 0);
        for (int i = 1; i < 25; i++) {
            due.is("13 how many there were", x.ticks(200), 200 * i);
        }
        due.is("13 one less", x.ticks(199), 4999);
        due.is("13 beyond", x.ticks(2), FULL);
        due.is("13 bad before full", x.ticks(201), BAD);
        due.is("13 full changes nothing", x.count(2), 4999);
        due.is("13 the last", x.ticks(1), 5000);
        due.is("13 no more", x.ticks(1), FULL);
    }

    private static void tickChoosesPull() {
        BellPulls x = new BellPulls();
        x.pull(0, 10, 1, 0, 0b1);
        x.pull(0, 11, 3, 1, 0b10);
        x.pull(0, 12, 3, 2, 0b100);
        x.pull(0, 13, 3, 3, 0b1000);
        x.ring(0);
        x.ticks(1);
        x.ring(2);
        x.ring(3);
        x.ticks(1);
        x.ring(1);
        x.ring(0);
        x.servant(0, 10, 31);
        x.ticks(1);
        due.is("13 rank, then longest, then lowest", x.servantTold(0, 2), 2);
        due.is("13 over way and serve later", x.servantTold(0, 3), 4);
        due.is("13 others wait", x.count(3), 3);
        x.servant(0, 10, 31);
        x.ticks(1);
        due.is("13 waited longest though not lowest", x.servantTold(1, 2), 3);
        x.servant(0, 10, 31);
        x.ticks(1);
        due.is("13 rank before waiting", x.servantTold(2, 2), 1);
        due.is("13 waited for by the lowest rank", x.about(0, 0), 1);
        x.servant(0, 0, 31);
        x.ticks(1);
        due.is("13 the last", x.servantTold(3, 2), 0);
        due.is("12 a second ring does not begin the wait anew", x.about(0, 3), 5 + 10);
    }

    private static void tickChoosesServant() {
        BellPulls x = new BellPulls();
        x.pull(1, 10, 2, 0, 0b1);
        x.pull(1, 12, 2, 1, 0b10);
        x.servant(2, 15, 31);
        x.servant(1, 20, 31);
        x.servant(1, 0, 4);
        x.servant(1, 10, 27);
        x.ring(0);
        x.ring(1);
        x.ticks(1);
        due.is("13 nearest, of several the lowest", x.servantTold(1, 2), 0);
        due.is("13 the next nearest by the stairs", x.servantTold(0, 2), 1);
        due.is("13 one that may not stays", x.servantTold(3, 2), NONE);
        due.is("13 over a floor", x.about(1, 3), 0 + 6 + 3);
        due.is("13 on one floor", x.about(0, 3), 10);
        due.is("28 on errands", x.count(4), 2);
    }

    private static void tickSkipsWhatNoneMayServe() {
        BellPulls x = new BellPulls();
        x.pull(0, 0, 4, 0, 0b1);
        x.pull(0, 1, 0, 1, 0b10);
        x.servant(0, 0, 0b01111);
        x.servant(0, 9, 0b01110);
        x.ring(0);
        x.ring(1);
        x.ticks(1);
        due.is("13 the lower rank goes", x.servantTold(0, 2), 1);
        due.is("13 the higher waits", x.about(0, 0), 1);
        due.is("13 another stays", x.servantTold(1, 2), NONE);
        BellPulls y = new BellPulls();
        y.pull(0, 0, 4, 0, 0b1);
        y.ring(0);
        y.ticks(200);
        due.is("13 no servants", y.about(0, 0), 1);
        due.is("14 waited so long", y.takeBack(0), 200);
    }

    private static void errandIsOver() {
        BellPulls x = new BellPulls();
        x.pull(3, 30, 0, 0, 0b1);
        x.pull(3, 29, 0, 1, 0b10);
        x.servant(0, 0, 1);
        x.ring(0);
        x.ticks(1);
        // 15 to the stairs, 18 up, 15 on: 48, and 3 to serve
        due.is("17 till it is free", x.servantTold(0, 3), 50);
        due.is("17 errands count from their start", x.servantTold(0, 4), 1);
        due.is("16 errands for it", x.about(0, 2), 1);
        due.is("12 rung while on its errand", x.ring(0), 1);
        due.is("12 does not wait", x.about(0, 0), 2);
        x.ring(1);
        due.is("13 to one before the end", x.ticks(49), 50);
        due.is("17 one left", x.servantTold(0, 3), 1);
        due.is("17 where it was", x.servantTold(0, 0) + x.servantTold(0, 1), 0);
        due.is("16 on its errand yet", x.about(0, 0), 2);
        due.is("18 from where it was", x.way(0, 1), 15 + 18 + 14);
        due.is("16 the other waits", x.about(1, 0), 1);
        x.ticks(1);
        due.is("17 free", x.servantTold(0, 2), NONE);
        due.is("17 none left", x.servantTold(0, 3), 0);
        due.is("17 at the room's floor", x.servantTold(0, 0), 3);
        due.is("17 at the room's place", x.servantTold(0, 1), 30);
        due.is("16 no errand more", x.about(0, 0), 0);
        due.is("18 from the room", x.way(0, 1), 1);
        x.ring(0);
        due.is("12 waits anew", x.about(0, 0), 1);
        x.ticks(1);
        due.is("13 the one that waits longest", x.servantTold(0, 2), 1);
        due.is("16 waited from the ring on", x.about(1, 3), 50 + 1);
        due.is("17 two errands", x.servantTold(0, 4), 2);
    }

    private static void waitedInAll() {
        BellPulls x = new BellPulls();
        x.pull(0, 20, 0, 0, 0b1);
        x.servant(0, 10, 1);
        x.ring(0);
        x.ticks(20);
        due.is("16 first", x.about(0, 3), 10);
        x.ring(0);
        x.ticks(1);
        due.is("16 in all", x.about(0, 3), 10);
        due.is("16 the longest stays", x.about(0, 4), 10);
        x.ring(0);
        x.ticks(2);
        due.is("16 errands", x.about(0, 2), 2);
        x.ticks(1);
        x.ring(0);
        x.ticks(1);
        due.is("16 three", x.about(0, 2), 3);
        due.is("16 no way, no wait", x.about(0, 3), 10);
        x.pull(0, 8, 0, 1, 0b10);
        x.ring(1);
        x.ticks(2);
        due.is("16 counted when a servant goes", x.about(1, 3), 0);
        x.ticks(1);
        due.is("16 waited and way", x.about(1, 3), 2 + 12);
        due.is("16 its longest", x.about(1, 4), 14);
    }

    private static void takeBack() {
        BellPulls x = new BellPulls();
        x.pull(0, 0, 0, 0, 0b1);
        due.is("14 not waiting", x.takeBack(0), NO);
        x.ticks(5);
        x.ring(0);
        due.is("14 at once", x.takeBack(0), 0);
        x.ring(0);
        x.ticks(7);
        due.is("14 after 7", x.takeBack(0), 7);
        due.is("14 waits no more", x.about(0, 0), 0);
        due.is("14 its flag stays", x.about(0, 1), 1);
        due.is("14 no errand", x.about(0, 2) + x.about(0, 3) + x.about(0, 4), 0);
        due.is("14 again", x.takeBack(0), NO);
        due.is("28 taken back", x.count(8), 2);
        x.servant(0, 9, 31);
        x.ticks(1);
        due.is("14 nobody goes", x.count(4), 0);
        x.ring(0);
        x.ticks(1);
        due.is("14 not on an errand", x.takeBack(0), NO);
        due.is("14 the wait began anew", x.about(0, 3), 9);
        due.is("14 pull -1", x.takeBack(-1), BAD);
        due.is("14 pull 1", x.takeBack(1), BAD);
        due.is("28 still two", x.count(8), 2);
    }

    private static void flags() {
        BellPulls x = new BellPulls();
        for (int i = 0; i < 12; i++) {
            due.is("15 beyond the pulls", x.flags(1 << i), BAD);
            x.pull(0, 0, 0, i % 8, 1 << i);
            due.is("15 not set", x.flags(1 << i), 0);
        }
        due.is("15 no thirteenth", x.flags(1 << 12), BAD);
        due.is("15 -1", x.flags(-1), BAD);
        for (int n : FAR_OFF) {
            due.is("15 far", x.flags(n), BAD);
        }
        x.ring(0);
        x.ring(3);
        x.ring(11);
        due.is("28 flags", x.count(5), 3);
        due.is("15 none of them", x.flags(0), 0);
        due.is("15 those of them that were", x.flags(0b1011), 0b1001);
        due.is("28 one is left", x.count(5), 1);
        due.is("16 it waits though its flag is back", x.about(0, 0), 1);
        x.ring(0);
        due.is("12 set again while it waits", x.about(0, 1), 1);
        due.is("15 all", x.flags(4095), 0b100000000001);
        due.is("15 none is left", x.flags(4095), 0);
        x.servant(0, 0, 1);
        x.ticks(1);
        x.ring(0);
        due.is("12 set while on its errand", x.about(0, 1), 1);
    }

    private static void badNumbers() {
        BellPulls x = new BellPulls();
        x.pull(0, 0, 0, 0, 0b1);
        x.servant(0, 0, 1);
        int[] wrong = {-2, -1, 1, 12, Integer.MIN_VALUE, Integer.MAX_VALUE};
        for (int n : wrong) {
            due.is("12 pull " + n, x.ring(n), BAD);
            due.is("14 pull " + n, x.takeBack(n), BAD);
            due.is("16 pull " + n, x.about(n, 0), BAD);
            due.is("17 servant " + n, x.servantTold(n, 0), BAD);
            due.is("18 servant " + n, x.way(n, 0), BAD);
            due.is("18 pull " + n, x.way(0, n), BAD);
            due.is("20 pull " + n, x.share(n), n == -1 ? 0 : BAD);
        }
        int[] noWhat = {-1, 5, Integer.MIN_VALUE, Integer.MAX_VALUE};
        for (int n : noWhat) {
            due.is("16 what " + n, x.about(0, n), BAD);
            due.is("17 what " + n, x.servantTold(0, n), BAD);
        }
        due.is("19 bell -2", x.swings(-2), BAD);
        due.is("19 bell 8", x.swings(8), BAD);
        for (int n : FAR_OFF) {
            due.is("19 bell far", x.swings(n), BAD);
        }
        due.is("12 nothing rang", x.swings(-1) + x.count(3) + x.count(5), 0);
    }

    private static void way() {
        BellPulls x = new BellPulls();
        x.pull(2, 7, 0, 0, 0b1);
        x.servant(2, 30, 0);
        x.servant(2, 0, 0);
        x.servant(1, 7, 0);
        x.servant(0, 15, 0);
        x.servant(3, 30, 0);
        due.is("18 on one floor", x.way(0, 0), 23);
        due.is("18 on one floor, up", x.way(1, 0), 7);
        due.is("18 to the stairs and back", x.way(2, 0), 8 + 6 + 8);
        due.is("18 from the stairs", x.way(3, 0), 0 + 12 + 8);
        due.is("18 down", x.way(4, 0), 15 + 6 + 8);
    }

    private static void shareTies() {
        BellPulls x = new BellPulls();
        x.pull(0, 10, 0, 0, 0b1);
        x.pull(0, 10, 0, 1, 0b10);
        x.pull(0, 20, 0, 2, 0b100);
        x.servant(0, 15, 1);
        x.servant(0, 15, 1);
        x.ring(1);
        x.ring(0);
        x.ring(2);
        // each way is 5: two go, one of rank 0 goes to none
        due.is("20 cost", x.share(-1), 110);
        due.is("20 lowest pull, lowest servant", x.share(0), 0);
        due.is("20 then the next", x.share(1), 1);
        due.is("20 none is above all", x.share(2), NONE);
        x.takeBack(0);
        due.is("20 no more", x.share(0), NONE);
        due.is("20 lowest now", x.share(1), 0);
        due.is("20 next now", x.share(2), 1);
        due.is("20 two go", x.share(-1), 10);
        due.is("20 it changes nothing", x.count(3), 2);
        due.is("20 nor sends", x.count(4), 0);
    }

    private static void shareAgainstGreed() {
        BellPulls x = new BellPulls();
        x.pull(0, 10, 4, 0, 0b1);
        x.pull(0, 13, 4, 1, 0b10);
        x.pull(0, 0, 0, 2, 0b100);
        x.servant(0, 11, 16);
        x.servant(0, 0, 31);
        due.is("20 nothing waits", x.share(-1), 0);
        due.is("20 it does not wait", x.share(0), NONE);
        x.ring(0);
        x.ring(1);
        // 5 * (1 + 13) or 5 * (2 + 10)
        due.is("20 the whole counts", x.share(-1), 60);
        due.is("20 not the nearest", x.share(0), 1);
        due.is("20 but the other", x.share(1), 0);
        x.ring(2);
        due.is("20 the weight of ranks", x.share(-1), 60 + 100);
        due.is("20 the low goes to none", x.share(2), NONE);
        x.takeBack(1);
        due.is("20 both go", x.share(-1), 5 * 1 + 1 * 0);
        due.is("20 one is on an errand", x.ticks(1), 1);
        x.ring(1);
        due.is("20 no servant is free", x.share(-1), 500);
        due.is("20 none for it", x.share(1), NONE);
    }

    private static void shareLimit() {
        BellPulls x = new BellPulls();
        for (int i = 0; i < 5; i++) {
            x.pull(0, i, i, i, 1 << i);
            x.ring(i);
        }
        due.is("20 five wait", x.share(-1), NO);
        due.is("20 five wait", x.share(2), NO);
        due.is("20 bad before no", x.share(5), BAD);
        due.is("21 five wait", x.send(), NO);
        due.is("21 nothing changed", x.count(3), 5);
        x.takeBack(0);
        due.is("20 four wait", x.share(-1), 100 * (2 + 3 + 4 + 5));
        due.is("21 none goes", x.send(), 0);
        due.is("21 they wait", x.count(3), 4);
    }

    private static void send() {
        BellPulls x = new BellPulls();
        x.pull(0, 10, 4, 0, 0b1);
        x.pull(0, 13, 4, 1, 0b10);
        x.pull(1, 15, 0, 2, 0b100);
        x.servant(0, 11, 16);
        x.servant(0, 0, 31);
        x.ring(0);
        due.is("21 one goes", x.send(), 1);
        due.is("21 nearest", x.servantTold(0, 2), 0);
        x.ring(1);
        x.ring(2);
        due.is("20 only the free", x.share(-1), 65 + 100);
        due.is("21 one again", x.send(), 1);
        due.is("21 to the higher rank", x.servantTold(1, 2), 1);
        due.is("21 over at", x.servantTold(1, 3), 16);
        due.is("21 waited the way", x.about(1, 3), 13);
        due.is("21 errands", x.about(1, 2) + x.servantTold(1, 4), 2);
        due.is("21 one waits", x.about(2, 0), 1);
        due.is("21 no tick went", x.count(2), 0);
        due.is("21 none is free", x.send(), 0);
        x.ticks(16);
        due.is("21 both are over", x.count(4), 0);
        due.is("18 where it came to", x.servantTold(1, 1), 13);
        x.ring(0);
        due.is("21 both could", x.send(), 2);
        due.is("21 waited 16 and the way", x.about(2, 3), 16 + 2 + 6);
        due.is("21 the longest", x.about(2, 4), 24);
    }
}
