/** The houses in which refused calls are made stand as they are said to. */
public final class HousesTest {
    private static final Due due = new Due();

    public static void main(String[] args) {
        for (House house : House.values()) {
            house.modelled(due);
        }
        newHouse();
        atWork(House.AT_WORK.furnished());
        awaited(House.AWAITED.furnished());
        full(House.FULL.furnished());
        due.end();
    }

    private static void counts(House house, int... want) {
        BellPulls x = house.furnished();
        for (int what = 0; what < want.length; what++) {
            due.is(house + " count " + what, x.count(what), want[what]);
        }
    }

    private static void newHouse() {
        counts(House.NEW, 0, 0, 0, 0, 0, 0, 0, 0, 0);
    }

    private static void atWork(BellPulls x) {
        counts(House.AT_WORK, 6, 3, 5, 2, 1, 3, 4, 4, 1);
        due.is("0 waits", x.about(0, 0), 1);
        due.is("1 is on its errand", x.about(1, 0), 2);
        due.is("3 waits", x.about(3, 0), 1);
        due.is("one may go to 3", x.share(3), 2);
        due.is("some faults explain", x.fault(-1), 8);
        due.is("bells swing", x.swings(-1), 0b10100011);
        due.is("two pairs", x.uncross(), 2);
    }

    private static void awaited(BellPulls x) {
        counts(House.AWAITED, 7, 3, 60, 5, 0, 6, 0, 0, 0);
        due.is("too many wait", x.share(-1), BellPulls.NO);
        for (int servant = 0; servant < 3; servant++) {
            due.is("is free", x.servantTold(servant, 3), 0);
        }
        x.takeBack(4);
        due.is("three would go", x.send(), 3);
    }

    private static void full(BellPulls x) {
        counts(House.FULL, 12, 5, 4900, 7, 5, 12, 12, 20, 0);
        due.is("too many wait", x.share(-1), BellPulls.NO);
        due.is("four pairs", x.uncross(), 4);
    }
}
