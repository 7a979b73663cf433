/**
 * The boundary cases of the document's part 2 and its promises 11 to 21, a test for each sentence
 * that names one; the sentence stands above its test.
 */
public final class EdgesOfServiceTest {
    private static final int BAD = BellPulls.BAD, NO = BellPulls.NO, FULL = BellPulls.FULL;
    private static final int NONE = BellPulls.NONE;
    private static final int MIN = Integer.MIN_VALUE, MAX = Integer.MAX_VALUE;
    private static final Due due = new Due();
    private static final Refusals refused = new Refusals(due);

    public static void main(String[] args) {
        servantsAre0To4AsTheyCome();
        servantsFloorAndPlace();
        tasksAreRanksAsBits();
        servantsAreFullAt5();
        wayOnOneFloor();
        wayOverTheStairs();
        wayOfThingsThatAreThere();
        serveTakes3();
        loudSwings8Weak4();
        weakRingLessensNothing();
        swingsOfBellsOrAll();
        callIsMadeIfAnyBellRings();
        waitsFromTheFirstRingOn();
        ringOnAnErrandDoesNotWait();
        ringOfAPullThatIsThere();
        ticksAre1To200();
        ticksAreFullBeyond5000();
        freeAsSoonAsTheErrandIsOver();
        greatestRankFirst();
        longestThenLowest();
        nearestThenLowest();
        againTillNoneCan();
        waitedAndTheWay();
        takenBackIfItWaits();
        takeBackOfAPullThatIsThere();
        flagsOfPullsThatAreThere();
        flagsAreSetBackByHand();
        aboutThingsThatAreThere();
        toldOfThingsThatAreThere();
        toldWhereItWasLast();
        shareOfNothing();
        share4AtMost();
        shareBadBeforeNo();
        shareToNone();
        shareTiesLowerServants();
        shareFreeServantsThatMay();
        sendHowManyGo();
        sendInThisTick();
        due.end();
    }

    /** Pulls 0 to many - 1, each with a bell and a crank of its own, rank 0, floor 0, place 15. */
    private static BellPulls pulls(int many) {
        BellPulls x = new BellPulls();
        for (int i = 0; i < many; i++) {
            x.pull(0, 15, 0, i % 8, 1 << i);
        }
        return x;
    }

    // "SERVANTS 0 to 4 as they come"; "A SERVANT: its number."
    private static void servantsAre0To4AsTheyCome() {
        BellPulls x = new BellPulls();
        for (int i = 0; i < 5; i++) {
            due.is("11 not there yet", x.servantTold(i, 3), BAD);
            due.is("11 its number", x.servant(i % 4, i, 31), i);
            due.is("11 is there", x.servantTold(i, 3), 0);
            due.is("11 its place", x.servantTold(i, 1), i);
            due.is("11 how many", x.count(1), i + 1);
        }
        due.is("11 no servant 5", x.servantTold(5, 3), BAD);
    }

    // "FLOOR and place"
    private static void servantsFloorAndPlace() {
        BellPulls x = new BellPulls();
        due.is("11 least", x.servant(0, 0, 1), 0);
        due.is("11 greatest", x.servant(3, 30, 1), 1);
        due.is("17 floor 0", x.servantTold(0, 0), 0);
        due.is("17 place 0", x.servantTold(0, 1), 0);
        due.is("17 floor 3", x.servantTold(1, 0), 3);
        due.is("17 place 30", x.servantTold(1, 1), 30);
        refused.with(BAD, "servant ? 0 1", -1, 4, 5, 256, MIN, MIN + 1, MAX);
        refused.with(BAD, "servant 0 ? 1", -1, 31, 32, 256, MIN, MIN + 1, MAX);
    }

    // "TASKS: RANKS that they may serve (bits)"
    private static void tasksAreRanksAsBits() {
        for (int rank = 0; rank < 5; rank++) {
            BellPulls x = new BellPulls();
            x.pull(0, 0, rank, 0, 1);
            due.is("11 all but this rank", x.servant(0, 0, 31 & ~(1 << rank)), 0);
            due.is("11 no rank at all", x.servant(0, 0, 0), 1);
            x.ring(0);
            x.ticks(1);
            due.is("13 none of them may", x.about(0, 0), 1);
            due.is("11 this rank alone", x.servant(3, 30, 1 << rank), 2);
            x.ticks(1);
            due.is("13 this one may", x.servantTold(2, 2), 0);
        }
        BellPulls all = new BellPulls();
        due.is("11 all ranks", all.servant(0, 0, 31), 0);
        refused.with(BAD, "servant 0 0 ?", -1, -2, 32, 33, 63, 256, MIN, MIN | 1, MAX);
        refused.everywhere(BAD, "servant 4 31 32", "servant -1 -1 -1", "servant MAX MAX MAX");
    }

    // "BAD; FULL: 5."
    private static void servantsAreFullAt5() {
        BellPulls x = new BellPulls();
        for (int i = 0; i < 4; i++) {
            x.servant(0, 0, 1);
        }
        due.is("11 the last that finds room", x.servant(3, 30, 31), 4);
        due.is("11 the first that does not", x.servant(0, 0, 1), FULL);
        due.is("11 the last stays as it is", x.servantTold(4, 1), 30);
        refused.in(House.FULL, FULL, "servant 0 0 1", "servant 3 30 31", "servant 0 0 0");
        refused.in(House.FULL, BAD, "servant 4 0 1", "servant 0 31 1", "servant 0 0 32");
    }

    // "THE WAY from one place to another: how far they are, on one FLOOR"
    private static void wayOnOneFloor() {
        BellPulls x = new BellPulls();
        x.pull(2, 0, 0, 0, 1);
        x.pull(2, 30, 0, 0, 1);
        x.servant(2, 0, 1);
        x.servant(2, 30, 1);
        due.is("18 none", x.way(0, 0) + x.way(1, 1), 0);
        due.is("18 all along", x.way(0, 1), 30);
        due.is("18 all along, back", x.way(1, 0), 30);
    }

    // "else from the one to the STAIRS (place 15), 6 for each FLOOR, from STAIRS to the other"
    private static void wayOverTheStairs() {
        BellPulls x = new BellPulls();
        x.pull(0, 15, 0, 0, 1);
        x.pull(0, 0, 0, 0, 1);
        x.pull(0, 30, 0, 0, 1);
        x.servant(1, 15, 1);
        x.servant(3, 0, 1);
        x.servant(3, 30, 1);
        x.servant(2, 14, 1);
        x.servant(2, 16, 1);
        due.is("18 the stairs alone", x.way(0, 0), 6);
        due.is("18 three floors", x.way(1, 0), 15 + 18);
        due.is("18 the longest", x.way(1, 2), 48);
        due.is("18 the longest back", x.way(2, 1), 48);
        due.is("18 to the stairs and back", x.way(1, 1), 48);
        due.is("18 one before the stairs", x.way(3, 1), 1 + 12 + 15);
        due.is("18 one behind the stairs", x.way(4, 1), 1 + 12 + 15);
    }

    // "THE WAY of a SERVANT to a PULL's ROOM, from where it was last. BAD."
    private static void wayOfThingsThatAreThere() {
        refused.in(House.NEW, BAD, "way 0 0");
        refused.in(House.AT_WORK, BAD, "way 3 0", "way 0 6", "way 3 6");
        refused.with(BAD, "way ? 0", -1, 5, 6, 12, MIN, MIN + 1, MAX);
        refused.with(BAD, "way 0 ?", -1, 12, 13, 16, MIN, MIN + 1, MAX);
        BellPulls x = House.FULL.furnished();
        due.is("18 the last of both", x.way(4, 11), 0);
        BellPulls pullsAlone = pulls(1);
        due.is("18 no servant yet", pullsAlone.way(0, 0), BAD);
        BellPulls servantAlone = new BellPulls();
        servantAlone.servant(0, 0, 1);
        due.is("18 no pull yet", servantAlone.way(0, 0), BAD);
    }

    // "SERVE takes 3 TICKS."; "ERRAND is over THE WAY and SERVE later"
    private static void serveTakes3() {
        BellPulls x = pulls(1);
        x.servant(0, 15, 1);
        x.ring(0);
        x.ticks(1);
        due.is("17 two left", x.servantTold(0, 3), 2);
        x.ticks(1);
        due.is("17 one left", x.servantTold(0, 3), 1);
        due.is("17 on its errand yet", x.servantTold(0, 2), 0);
        x.ticks(1);
        due.is("17 none left", x.servantTold(0, 3), 0);
        due.is("17 on no errand", x.servantTold(0, 2), NONE);
        BellPulls far = new BellPulls();
        far.pull(3, 30, 0, 0, 1);
        far.servant(0, 0, 1);
        far.ring(0);
        due.is("21 goes", far.send(), 1);
        due.is("17 the longest", far.servantTold(0, 3), 51);
    }

    // "A BELL that RINGS SWINGS for 8 TICKS (LOUD), 4 (WEAK) from then on"
    private static void loudSwings8Weak4() {
        BellPulls x = pulls(2);
        x.crank(1, 9);
        due.is("19 none yet", x.swings(0), 0);
        x.ring(0);
        x.ring(1);
        for (int tick = 0; tick < 10; tick++) {
            due.is("19 loud", x.swings(0), Math.max(8 - tick, 0));
            due.is("19 weak", x.swings(1), Math.max(4 - tick, 0));
            due.is("19 bits", x.swings(-1), (tick < 8 ? 1 : 0) | (tick < 4 ? 2 : 0));
            x.ticks(1);
        }
        x.ring(0);
        x.ticks(200);
        due.is("19 not below 0", x.swings(0), 0);
    }

    // "it is not lessened by a WEAK ring while it has more"
    private static void weakRingLessensNothing() {
        for (int left = 8; left >= 0; left--) {
            BellPulls x = pulls(1);
            x.ring(0);
            if (left < 8) {
                x.ticks(8 - left);
            }
            x.crank(0, 9);
            x.ring(0);
            due.is("19 weak with " + left + " left", x.swings(0), Math.max(left, 4));
            x.crank(0, 0);
            x.ring(0);
            due.is("19 loud again", x.swings(0), 8);
        }
    }

    // "TICKS a BELL SWINGS yet; bell = -1: all that do as bits. BAD."
    private static void swingsOfBellsOrAll() {
        BellPulls x = pulls(8);
        due.is("19 none yet", x.swings(-1), 0);
        x.ring(0);
        x.ring(7);
        due.is("19 the first and the last", x.swings(-1), 0b10000001);
        due.is("19 the first", x.swings(0), 8);
        due.is("19 the last", x.swings(7), 8);
        for (int i = 1; i < 7; i++) {
            x.ring(i);
        }
        due.is("19 all", x.swings(-1), 255);
        refused.with(BAD, "swings ?", -2, -3, 8, 9, 16, 32, MIN, MIN + 1, MAX);
    }

    // "A CALL is made by ring(): if any BELL RINGS by it"
    private static void callIsMadeIfAnyBellRings() {
        BellPulls x = pulls(2);
        x.crank(0, 10);
        due.is("12 nothing rings", x.ring(0), 0);
        due.is("12 no call", x.about(0, 0), 0);
        due.is("12 no flag", x.about(0, 1), 0);
        x.crank(0, 9);
        due.is("12 weak is enough", x.ring(0), 1);
        due.is("12 a call", x.about(0, 0), 1);
        due.is("12 its flag", x.about(0, 1), 1);
        BellPulls y = pulls(2);
        y.bell(0, 1, 1);
        y.cross(0, 1);
        due.is("12 another's bell is enough", y.ring(0), 2);
        due.is("12 the call is of the pull that is pulled", y.about(0, 0), 1);
        due.is("12 and so is the flag", y.about(0, 1), 1);
        due.is("12 none of the other", y.about(1, 0) + y.about(1, 1), 0);
    }

    // "its FLAG is set (if it is not) and the PULL WAITS (if it does not ..), from this TICK on"
    private static void waitsFromTheFirstRingOn() {
        BellPulls x = pulls(1);
        x.ticks(10);
        x.ring(0);
        x.ticks(5);
        x.flags(1);
        x.ring(0);
        due.is("12 the flag is set again", x.about(0, 1), 1);
        due.is("28 one waits", x.count(3), 1);
        x.ticks(5);
        due.is("14 from the first ring on", x.takeBack(0), 10);
        x.ring(0);
        due.is("14 from this tick on", x.takeBack(0), 0);
    }

    // "(.. and is not on an ERRAND)"
    private static void ringOnAnErrandDoesNotWait() {
        BellPulls x = pulls(1);
        x.servant(0, 15, 1);
        x.ring(0);
        x.ticks(1);
        x.flags(1);
        due.is("12 it rings", x.ring(0), 1);
        due.is("16 on its errand", x.about(0, 0), 2);
        due.is("28 none waits", x.count(3), 0);
        due.is("16 but its flag is set", x.about(0, 1), 1);
        x.ticks(2);
        due.is("16 that ring is forgotten", x.about(0, 0), 0);
        due.is("12 and it may wait anew", x.ring(0), 1);
        due.is("16 waits", x.about(0, 0), 1);
    }

    // "A PULL is pulled: BELLS that RING as bits. BAD."
    private static void ringOfAPullThatIsThere() {
        refused.in(House.NEW, BAD, "ring 0");
        refused.in(House.AT_WORK, BAD, "ring 6");
        refused.with(BAD, "ring ?", -1, 12, 13, 16, 32, MIN, MIN + 1, MAX);
        BellPulls x = pulls(12);
        due.is("12 the first", x.ring(0), 1);
        due.is("12 the last", x.ring(11), 8);
        due.is("12 the last bell", x.ring(7), 128);
    }

    // "n TICKS (1 to 200): how many there were. BAD"
    private static void ticksAre1To200() {
        BellPulls x = new BellPulls();
        due.is("13 the least", x.ticks(1), 1);
        due.is("13 the greatest", x.ticks(200), 201);
        due.is("28 so many", x.count(2), 201);
        refused.with(BAD, "ticks ?", 0, -1, -200, 201, 202, 256, 5000, 5001, MIN, MIN + 1, MAX);
    }

    // "FULL: beyond 5000"
    private static void ticksAreFullBeyond5000() {
        BellPulls x = new BellPulls();
        for (int i = 0; i < 24; i++) {
            x.ticks(200);
        }
        due.is("13 up to 5000 at once", x.ticks(200), 5000);
        due.is("13 not one more", x.ticks(1), FULL);
        due.is("13 nor 200", x.ticks(200), FULL);
        due.is("13 bad before full", x.ticks(0), BAD);
        due.is("13 bad before full, 201", x.ticks(201), BAD);
        due.is("13 bad before full, MAX", x.ticks(MAX), BAD);
        due.is("28 5000 there are", x.count(2), 5000);
        refused.in(House.FULL, FULL, "ticks 101", "ticks 102", "ticks 200");
        BellPulls y = House.FULL.furnished();
        due.is("13 the last that finds room", y.ticks(100), 5000);
        BellPulls z = House.FULL.furnished();
        due.is("13 to one before the end", z.ticks(99), 4999);
        due.is("13 two are too many", z.ticks(2), FULL);
        due.is("13 one is not", z.ticks(1), 5000);
    }

    // "A SERVANT is free, at the ROOM, as soon as TICKS are as many as its ERRAND is over at
    // (that PULL is on an ERRAND no more)."
    private static void freeAsSoonAsTheErrandIsOver() {
        BellPulls x = new BellPulls();
        x.pull(0, 20, 0, 0, 1);
        x.pull(0, 21, 0, 1, 2);
        x.servant(0, 10, 1);
        x.ring(0);
        x.ring(1);
        x.ticks(12);
        due.is("17 one tick before", x.servantTold(0, 3), 1);
        due.is("17 is where it was", x.servantTold(0, 1), 10);
        due.is("16 is on the errand", x.about(0, 0), 2);
        due.is("20 nobody is free", x.share(1), NONE);
        x.ticks(1);
        due.is("17 free", x.servantTold(0, 3), 0);
        due.is("17 at the room", x.servantTold(0, 1), 20);
        due.is("16 on an errand no more", x.about(0, 0), 0);
        due.is("20 free in this tick", x.share(1), 0);
        due.is("16 the other waits yet", x.about(1, 0), 1);
        x.ticks(1);
        due.is("13 goes in the next tick", x.servantTold(0, 2), 1);
        due.is("16 waited 13 and 1", x.about(1, 3), 14);
    }

    // "A TICK: 1 of PULLS that WAIT, that of the greatest RANK .. to which a free SERVANT may go"
    private static void greatestRankFirst() {
        for (int rank = 1; rank < 5; rank++) {
            BellPulls x = new BellPulls();
            x.pull(0, 0, rank - 1, 0, 1);
            x.pull(0, 30, rank, 1, 2);
            x.ring(0);
            x.ticks(9);
            x.ring(1);
            x.servant(0, 0, 31);
            x.ticks(1);
            due.is("13 rank " + rank + " goes first", x.servantTold(0, 2), 1);
        }
        BellPulls y = new BellPulls();
        y.pull(0, 0, 0, 0, 1);
        y.pull(0, 30, 4, 1, 2);
        y.servant(0, 0, 0b01111);
        y.ring(0);
        y.ring(1);
        y.ticks(1);
        due.is("13 the greatest to which one may go", y.servantTold(0, 2), 0);
        due.is("13 the other waits", y.about(1, 0), 1);
    }

    // "of several that which WAITS longest, then the lowest"
    private static void longestThenLowest() {
        BellPulls x = pulls(3);
        x.ring(2);
        x.ticks(1);
        x.ring(1);
        x.ring(0);
        x.servant(0, 15, 1);
        x.ticks(1);
        due.is("13 longest by one tick", x.servantTold(0, 2), 2);
        x.ticks(2);
        x.ticks(1);
        due.is("13 of one tick the lowest", x.servantTold(0, 2), 0);
        x.ticks(3);
        due.is("13 then the next", x.servantTold(0, 2), 1);
    }

    // "the nearest, of several the lowest, goes"
    private static void nearestThenLowest() {
        BellPulls x = pulls(1);
        x.servant(0, 20, 1);
        x.servant(0, 11, 1);
        x.servant(0, 19, 1);
        x.servant(0, 15, 2);
        x.ring(0);
        x.ticks(1);
        due.is("13 nearer by one, lower of two", x.servantTold(1, 2), 0);
        due.is("13 not the first", x.servantTold(0, 2), NONE);
        due.is("13 not the third", x.servantTold(2, 2), NONE);
        due.is("13 not one that may not", x.servantTold(3, 2), NONE);
    }

    // "again, till none can"
    private static void againTillNoneCan() {
        BellPulls x = pulls(6);
        for (int i = 0; i < 6; i++) {
            x.ring(i);
        }
        x.ticks(1);
        due.is("13 no servants", x.count(4), 0);
        for (int i = 0; i < 5; i++) {
            x.servant(0, 15, 1);
        }
        x.ticks(1);
        due.is("13 all five go in one tick", x.count(4), 5);
        due.is("13 one waits", x.about(5, 0), 1);
        BellPulls y = pulls(2);
        for (int i = 0; i < 5; i++) {
            y.servant(0, 15, 1);
        }
        y.ring(0);
        y.ring(1);
        y.ticks(1);
        due.is("13 only as many as wait", y.count(4), 2);
        due.is("13 none waits", y.count(3), 0);
    }

    // "it WAITED so many TICKS (this one less that of the ring) and THE WAY"; "3 TICKS that it
    // WAITED in all (with THE WAY; of ERRANDS), 4 the longest"
    private static void waitedAndTheWay() {
        BellPulls x = pulls(1);
        due.is("16 none yet", x.about(0, 3) + x.about(0, 4) + x.about(0, 2), 0);
        x.servant(0, 15, 1);
        x.ring(0);
        x.ticks(1);
        due.is("16 no wait and no way", x.about(0, 3), 0);
        due.is("16 the longest is none", x.about(0, 4), 0);
        due.is("16 but an errand", x.about(0, 2), 1);
        BellPulls back = pulls(1);
        back.ring(0);
        back.ticks(6);
        back.takeBack(0);
        due.is("16 what is taken back does not count", back.about(0, 3) + back.about(0, 4), 0);
        due.is("16 nor as an errand", back.about(0, 2), 0);
        BellPulls y = new BellPulls();
        y.pull(0, 25, 0, 0, 1);
        y.ring(0);
        y.ticks(4);
        y.servant(0, 20, 1);
        y.ticks(8);
        due.is("16 4 and 5", y.about(0, 3), 9);
        due.is("16 the longest 9", y.about(0, 4), 9);
        y.ring(0);
        y.ticks(8);
        due.is("16 in all the same", y.about(0, 3), 9);
        due.is("16 the longest stays", y.about(0, 4), 9);
        y.pull(0, 15, 0, 1, 2);
        y.ring(1);
        y.ticks(13);
        y.ring(0);
        y.ticks(13);
        due.is("16 9 and 10", y.about(0, 3), 19);
        due.is("16 the longest is 10", y.about(0, 4), 10);
        due.is("16 three errands", y.about(0, 2), 3);
    }

    // "TAKEN BACK is a PULL that WAITS: it does no more."; "NO: it does not WAIT"
    private static void takenBackIfItWaits() {
        BellPulls x = pulls(2);
        due.is("14 has not rung", x.takeBack(0), NO);
        x.ring(0);
        due.is("14 in the same tick", x.takeBack(0), 0);
        due.is("14 waits no more", x.about(0, 0), 0);
        due.is("14 its flag is set yet", x.about(0, 1), 1);
        due.is("14 twice", x.takeBack(0), NO);
        due.is("28 one", x.count(8), 1);
        x.ring(1);
        x.ticks(200);
        due.is("14 how many ticks it waited", x.takeBack(1), 200);
        due.is("28 two", x.count(8), 2);
        refused.in(House.AT_WORK, NO, "takeBack 1", "takeBack 2", "takeBack 4", "takeBack 5");
        refused.in(House.AWAITED, NO, "takeBack 5", "takeBack 6");
        BellPulls full = House.FULL.furnished();
        for (int pull = 0; pull < 12; pull++) {
            if (full.about(pull, 0) == 2) {
                refused.in(House.FULL, NO, "takeBack " + pull);
            }
        }
    }

    // "TAKEN BACK: how many TICKS it waited. BAD"
    private static void takeBackOfAPullThatIsThere() {
        refused.in(House.NEW, BAD, "takeBack 0");
        refused.in(House.AT_WORK, BAD, "takeBack 6");
        refused.with(BAD, "takeBack ?", -1, 12, 13, 16, 32, MIN, MIN + 1, MAX);
    }

    // "FLAGS (bits) are set back: those that were set. BAD."
    private static void flagsOfPullsThatAreThere() {
        refused.in(House.NEW, BAD, "flags 1", "flags 2");
        refused.in(House.AT_WORK, BAD, "flags 64", "flags 65", "flags 127");
        refused.with(BAD, "flags ?", -1, -2, 4096, 4097, 8191, 65536, MIN, MIN | 1, MAX);
        due.is("15 none of none", new BellPulls().flags(0), 0);
        BellPulls x = House.FULL.furnished();
        due.is("15 all twelve", x.flags(4095), 4095);
        due.is("15 none is set now", x.flags(4095), 0);
        BellPulls y = House.AT_WORK.furnished();
        due.is("15 all that are there", y.flags(63), 0b011010);
    }

    // "FLAGS are set back by hand." - only these, and nothing else
    private static void flagsAreSetBackByHand() {
        BellPulls x = pulls(12);
        x.ring(0);
        x.ring(11);
        x.ring(5);
        x.takeBack(5);
        x.servant(0, 15, 1);
        x.ticks(20);
        due.is("15 no servant sets one back", x.count(5), 3);
        due.is("15 none", x.flags(0), 0);
        due.is("15 of those not set", x.flags(0b000000000010), 0);
        due.is("28 three yet", x.count(5), 3);
        due.is("15 the last", x.flags(1 << 11), 1 << 11);
        due.is("16 the last's is back", x.about(11, 1), 0);
        due.is("16 the first's is set", x.about(0, 1), 1);
        due.is("15 the rest", x.flags(4095), 0b100001);
    }

    // "Of a PULL: 0 .., 1 .., 2 .., 3 .., 4 the longest. BAD."
    private static void aboutThingsThatAreThere() {
        refused.in(House.NEW, BAD, "about 0 0", "about 0 4");
        refused.in(House.AT_WORK, BAD, "about 6 0", "about 6 4");
        refused.with(BAD, "about ? 0", -1, 12, 13, 16, MIN, MIN + 1, MAX);
        refused.with(BAD, "about 0 ?", -1, 5, 6, MIN, MIN + 1, MAX);
        BellPulls x = pulls(12);
        for (int what = 0; what < 5; what++) {
            due.is("16 of the first " + what, x.about(0, what), 0);
            due.is("16 of the last " + what, x.about(11, what), 0);
        }
    }

    // "Of a SERVANT: 0 FLOOR, .., 2 the PULL it is on an ERRAND for (NONE), 3 TICKS till it is
    // free (0: it is), 4 ERRANDS. BAD."
    private static void toldOfThingsThatAreThere() {
        refused.in(House.NEW, BAD, "servantTold 0 0", "servantTold 0 4");
        refused.in(House.AT_WORK, BAD, "servantTold 3 0", "servantTold 3 4");
        refused.with(BAD, "servantTold ? 0", -1, 5, 6, 12, MIN, MIN + 1, MAX);
        refused.with(BAD, "servantTold 0 ?", -1, 5, 6, MIN, MIN + 1, MAX);
        BellPulls x = new BellPulls();
        x.servant(2, 9, 31);
        int[] want = {2, 9, NONE, 0, 0};
        for (int what = 0; what < 5; what++) {
            due.is("17 of a new one " + what, x.servantTold(0, what), want[what]);
        }
    }

    // "1 place (where it was last)"
    private static void toldWhereItWasLast() {
        BellPulls x = new BellPulls();
        x.pull(2, 7, 0, 0, 1);
        x.servant(0, 15, 1);
        x.ring(0);
        x.ticks(22);
        due.is("17 on the way yet", x.servantTold(0, 3), 1);
        due.is("17 its floor yet", x.servantTold(0, 0), 0);
        due.is("17 its place yet", x.servantTold(0, 1), 15);
        due.is("18 from there yet", x.way(0, 0), 20);
        x.ticks(1);
        due.is("17 its floor now", x.servantTold(0, 0), 2);
        due.is("17 its place now", x.servantTold(0, 1), 7);
        due.is("18 from here now", x.way(0, 0), 0);
        due.is("17 one errand", x.servantTold(0, 4), 1);
    }

    // "COST (pull = -1), the SERVANT for a PULL (NONE: none, or it does not WAIT)"
    private static void shareOfNothing() {
        BellPulls x = new BellPulls();
        due.is("20 an empty house", x.share(-1), 0);
        BellPulls y = pulls(2);
        y.servant(0, 15, 1);
        due.is("20 nothing waits", y.share(-1), 0);
        due.is("20 it does not wait", y.share(0), NONE);
        y.ring(1);
        due.is("20 no way to go", y.share(-1), 0);
        due.is("20 the servant", y.share(1), 0);
        due.is("20 the other does not wait", y.share(0), NONE);
        refused.in(House.NEW, BAD, "share 0");
        refused.in(House.AT_WORK, BAD, "share 6");
        refused.with(BAD, "share ?", -2, -3, 12, 13, 16, MIN, MIN + 1, MAX);
    }

    // "PULLS that WAIT (4 at most; else NO)"
    private static void share4AtMost() {
        BellPulls x = pulls(5);
        for (int i = 1; i < 5; i++) {
            x.ring(i);
        }
        due.is("20 four", x.share(-1), 400);
        due.is("20 for one of four", x.share(4), NONE);
        due.is("21 four", x.send(), 0);
        x.ring(0);
        due.is("20 five", x.share(-1), NO);
        due.is("20 for one of five", x.share(0), NO);
        due.is("21 five", x.send(), NO);
        x.servant(0, 15, 1);
        due.is("20 though one could go", x.share(-1), NO);
        x.takeBack(4);
        due.is("20 four again", x.share(-1), 300);
        BellPulls y = pulls(12);
        y.ring(0);
        y.ring(11);
        due.is("20 the first and the last of twelve", y.share(-1), 200);
        y.servant(0, 15, 1);
        y.servant(0, 15, 1);
        due.is("20 for the last", y.share(11), 1);
        due.is("21 both", y.send(), 2);
        due.is("17 to the last", y.servantTold(1, 2), 11);
        refused.in(House.FULL, NO, "share -1", "share 0", "share 11", "send");
        refused.in(House.AWAITED, NO, "share -1", "share 0", "share 4", "share 6", "send");
    }

    // "BAD .. NO .. Of several the first"
    private static void shareBadBeforeNo() {
        refused.in(House.AWAITED, BAD, "share -2", "share 7", "share 12", "share MIN", "share MAX");
        refused.in(House.FULL, BAD, "share -2", "share 12", "share MIN", "share MAX");
    }

    // "of each to none (RANK and 1) times 100"
    private static void shareToNone() {
        for (int rank = 0; rank < 5; rank++) {
            BellPulls x = new BellPulls();
            x.pull(3, 30, rank, 0, 1);
            x.ring(0);
            due.is("20 none of rank " + rank, x.share(-1), 100 * (rank + 1));
            due.is("20 none", x.share(0), NONE);
            x.servant(0, 0, 31);
            due.is("20 the longest way of rank " + rank, x.share(-1), 48 * (rank + 1));
            due.is("20 goes", x.share(0), 0);
        }
    }

    // "of several that whose SERVANTS are lower (none: above all), PULL by PULL from the lowest on"
    private static void shareTiesLowerServants() {
        BellPulls x = pulls(4);
        for (int i = 3; i >= 0; i--) {
            x.ring(i);
        }
        x.servant(0, 20, 1);
        due.is("20 one servant", x.share(-1), 305);
        due.is("20 to the lowest pull", x.share(0), 0);
        due.is("20 none for the next", x.share(1), NONE);
        x.servant(0, 10, 1);
        x.servant(0, 20, 1);
        x.servant(0, 10, 1);
        due.is("20 four servants", x.share(-1), 20);
        for (int i = 0; i < 4; i++) {
            due.is("20 lower to lower", x.share(i), i);
        }
        x.servant(0, 10, 1);
        for (int i = 0; i < 4; i++) {
            due.is("20 the fifth is not taken", x.share(i), i);
        }
        BellPulls y = new BellPulls();
        y.pull(0, 10, 0, 0, 1);
        y.pull(0, 12, 0, 1, 2);
        y.servant(0, 14, 1);
        y.servant(0, 16, 1);
        y.ring(0);
        y.ring(1);
        // 4 + 4 or 6 + 2
        due.is("20 two of one cost", y.share(-1), 8);
        due.is("20 the lower for the lowest", y.share(0), 0);
        due.is("20 the other for the next", y.share(1), 1);
    }

    // "SERVANTS that are free: each PULL goes to one that may serve it, or to none; each SERVANT
    // takes one at most"
    private static void shareFreeServantsThatMay() {
        BellPulls x = new BellPulls();
        x.pull(0, 15, 0, 0, 1);
        x.pull(0, 15, 4, 1, 2);
        x.servant(0, 15, 0b11110);
        x.ring(0);
        due.is("20 one that may not", x.share(-1), 100);
        x.ring(1);
        due.is("20 one of them", x.share(-1), 100);
        due.is("20 to that it may serve", x.share(1), 0);
        due.is("20 none", x.share(0), NONE);
        due.is("21 one goes", x.send(), 1);
        due.is("20 on its errand it is not free", x.share(0), NONE);
        BellPulls y = pulls(2);
        y.servant(0, 15, 1);
        y.ring(0);
        y.ring(1);
        due.is("20 one servant takes one", y.share(-1), 100);
    }

    // "All that WAITS is SHARED OUT so now .. how many go. NO."
    private static void sendHowManyGo() {
        due.is("21 an empty house", new BellPulls().send(), 0);
        BellPulls x = pulls(4);
        for (int i = 0; i < 5; i++) {
            x.servant(0, 15, 1);
        }
        due.is("21 nothing waits", x.send(), 0);
        for (int i = 0; i < 4; i++) {
            x.ring(i);
        }
        due.is("21 all four", x.send(), 4);
        due.is("28 on errands", x.count(4), 4);
        due.is("28 none waits", x.count(3), 0);
        due.is("21 none is left to go", x.send(), 0);
        due.is("17 the fifth stays", x.servantTold(4, 2), NONE);
    }

    // "in this TICK"
    private static void sendInThisTick() {
        BellPulls x = pulls(1);
        x.servant(0, 15, 1);
        x.ticks(3);
        x.ring(0);
        due.is("21 goes", x.send(), 1);
        due.is("28 no tick went by", x.count(2), 3);
        due.is("19 nor swings it less", x.swings(0), 8);
        due.is("17 three till it is free", x.servantTold(0, 3), 3);
        x.ticks(2);
        due.is("17 one left", x.servantTold(0, 3), 1);
        x.ticks(1);
        due.is("17 free", x.servantTold(0, 3), 0);
    }
}
