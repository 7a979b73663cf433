/**
 * The boundary cases of the document's part 1 and its promises 1 to 10, a test for each sentence
 * that names one; the sentence stands above its test.
 */
public final class EdgesOfWiringTest {
    private static final int BAD = BellPulls.BAD, NO = BellPulls.NO, FULL = BellPulls.FULL;
    private static final int MIN = Integer.MIN_VALUE, MAX = Integer.MAX_VALUE;
    private static final Due due = new Due();
    private static final Refusals refused = new Refusals(due);

    public static void main(String[] args) {
        newObjectHasNothing();
        cranksAreGoodAtFirst();
        cranksAre0To15();
        slackIs1To9OrDead();
        crankAnswersWhatItWas();
        bellsAre0To7();
        toneIs0To5();
        wellOrMute();
        bellHasTwoKindsOfThings();
        heatIs0To40();
        heatAnswersWhatItWas();
        pullsAre0To11AsTheyCome();
        floorIs0To3();
        placeIs0To30();
        rankIs0To4();
        pullHasABellThatIsThere();
        cranksOfAPullAre1To5();
        pullsAreFullAt12();
        pairsAre4AtMost();
        crossIsBadForOneCrank();
        crossIsNoIfTheyAre();
        uncrossAnswersHowManyWere();
        heatIsCut();
        slackTogether();
        noForceBelow0();
        noForceOverADeadCrank();
        loudFrom6On();
        weakFrom1To5();
        pulledAlongFrom6On();
        alongItsOwnBellStaysLoud();
        alongIfWellAndNotDead();
        alongByEachOfTheRowOfPairs();
        alongNoPullAtAll();
        forceOfAPullThatIsThere();
        wouldOfThingsThatAreThere();
        meansTone();
        meansLoud();
        meansSwing();
        meansBells();
        due.end();
    }

    /** A house with one pull: bell 0, rank 0, these cranks. */
    private static BellPulls onePull(int cranks) {
        BellPulls x = new BellPulls();
        x.pull(0, 0, 0, 0, cranks);
        return x;
    }

    // "No PULLS, SERVANTS; no WALLS, no WIRES in THE FRAME."
    private static void newObjectHasNothing() {
        BellPulls x = new BellPulls();
        for (int what = 0; what <= 8; what++) {
            due.is("1 count " + what, x.count(what), 0);
        }
        due.is("1 no pull to force", x.force(0), BAD);
        due.is("1 no pull to ring", x.ring(0), BAD);
        due.is("1 no servant", x.servantTold(0, 0), BAD);
        due.is("1 no pull means", x.means(-1, 0, -1), 0);
        for (int a = 0; a < 24; a++) {
            for (int b = a + 1; b < 24; b++) {
                if (a / 6 == b / 6 && b == a + 1 || b == a + 6) {
                    due.is("1 between " + a + " and " + b, x.frame(a, b, 0), 0);
                }
            }
        }
    }

    // "CRANKS 0 to 15 are GOOD at first"
    private static void cranksAreGoodAtFirst() {
        BellPulls x = new BellPulls();
        for (int crank = 0; crank < 16; crank++) {
            due.is("2 good at first " + crank, x.crank(crank, 0), 0);
        }
    }

    // "CRANKS 0 to 15"
    private static void cranksAre0To15() {
        BellPulls x = new BellPulls();
        due.is("2 crank 0", x.crank(0, 1), 0);
        due.is("2 crank 15", x.crank(15, 2), 0);
        due.is("2 crank 0 apart", x.crank(0, 0), 1);
        due.is("2 crank 15 apart", x.crank(15, 0), 2);
        refused.with(BAD, "crank ? 0", -1, 16, 17, 32, -16, 256, 65536, MIN, MIN + 1, MAX);
        refused.with(BAD, "crank ? 10", -1, 16, MIN, MAX);
    }

    // "SLACK by 1 to 9, or DEAD"; "GOOD (0), SLACK by 1 to 9, DEAD (10)"
    private static void slackIs1To9OrDead() {
        BellPulls x = onePull(0b1);
        for (int v = 0; v <= 9; v++) {
            due.is("2 taken " + v, x.crank(0, v), Math.max(v - 1, 0));
            due.is("2 slack by " + v, x.force(0), 10 - v);
        }
        due.is("2 dead", x.crank(0, 10), 9);
        due.is("2 no force when dead", x.force(0), 0);
        refused.with(BAD, "crank 0 ?", -1, 11, 12, 16, 256, MIN, MIN + 1, MAX);
        refused.with(BAD, "crank 15 ?", -1, 11, MIN, MAX);
        refused.everywhere(BAD, "crank -1 11", "crank 16 -1", "crank MIN MAX");
    }

    // "what it was"
    private static void crankAnswersWhatItWas() {
        BellPulls x = new BellPulls();
        int was = 0;
        for (int v : new int[] {10, 10, 9, 0, 0, 1, 10, 1, 5}) {
            due.is("2 was", x.crank(7, v), was);
            was = v;
        }
        due.is("2 its neighbours", x.crank(6, 0) + x.crank(8, 0), 0);
    }

    // "BELLS 0 to 7"
    private static void bellsAre0To7() {
        BellPulls x = new BellPulls();
        due.is("3 bell 0", x.bell(0, 0, 1), 0);
        due.is("3 bell 7", x.bell(7, 0, 2), 0);
        due.is("3 bell 0 apart", x.bell(0, 0, 0), 1);
        due.is("3 bell 7 apart", x.bell(7, 0, 0), 2);
        refused.with(BAD, "bell ? 0 0", -1, 8, 9, 16, -8, 256, MIN, MIN + 1, MAX);
        refused.with(BAD, "bell ? 1 1", -1, 8, 32, 33, -32, MIN, MAX);
    }

    // "TONE (0 to 5; 0 at first)"
    private static void toneIs0To5() {
        BellPulls x = new BellPulls();
        for (int bell = 0; bell < 8; bell++) {
            due.is("3 tone at first", x.bell(bell, 0, 0), 0);
        }
        for (int tone = 0; tone <= 5; tone++) {
            due.is("3 tone taken", x.bell(3, 0, tone), Math.max(tone - 1, 0));
        }
        due.is("3 tone it was", x.bell(3, 0, 0), 5);
        refused.with(BAD, "bell 0 0 ?", -1, 6, 7, 8, MIN, MIN + 1, MAX);
        refused.with(BAD, "bell 7 0 ?", -1, 6, MIN, MAX);
    }

    // "are WELL at first, or MUTE"; "WELL 0 or MUTE 1"
    private static void wellOrMute() {
        BellPulls x = new BellPulls();
        for (int bell = 0; bell < 8; bell++) {
            due.is("3 well at first", x.bell(bell, 1, 0), 0);
        }
        due.is("3 was well", x.bell(7, 1, 1), 0);
        due.is("3 was mute", x.bell(7, 1, 1), 1);
        due.is("3 the others are well", x.bell(6, 1, 0) + x.bell(0, 1, 0), 0);
        due.is("3 is mute yet", x.bell(7, 1, 0), 1);
        due.is("3 tone is another thing", x.bell(7, 0, 0), 0);
        refused.with(BAD, "bell 0 1 ?", -1, 2, 3, 5, MIN, MIN + 1, MAX);
        refused.with(BAD, "bell 7 1 ?", -1, 2, MIN, MAX);
    }

    // "TONE of a BELL (what = 0), WELL 0 or MUTE 1 (1)"
    private static void bellHasTwoKindsOfThings() {
        refused.with(BAD, "bell 0 ? 0", -1, 2, 3, MIN, MIN + 1, MAX);
        refused.with(BAD, "bell 7 ? 1", -1, 2, MIN, MAX);
        refused.everywhere(BAD, "bell 8 2 2", "bell -1 -1 -1", "bell MIN MIN MIN");
    }

    // "HEAT is 0 to 40 (0 at first)."
    private static void heatIs0To40() {
        BellPulls x = onePull(0b1);
        due.is("4 at first", x.heat(0), 0);
        due.is("4 least", x.force(0), 10);
        due.is("4 greatest taken", x.heat(40), 0);
        due.is("4 greatest", x.force(0), 8);
        refused.with(BAD, "heat ?", -1, -2, 41, 42, 64, 256, MIN, MIN + 1, MAX);
    }

    // "HEAT: what it was."
    private static void heatAnswersWhatItWas() {
        BellPulls x = new BellPulls();
        int was = 0;
        for (int v : new int[] {40, 40, 0, 1, 39, 20, 0}) {
            due.is("4 was", x.heat(v), was);
            was = v;
        }
    }

    // "PULLS 0 to 11 as they come"; "A PULL: its number."
    private static void pullsAre0To11AsTheyCome() {
        BellPulls x = new BellPulls();
        for (int i = 0; i < 12; i++) {
            due.is("5 not there yet", x.force(i), BAD);
            due.is("5 its number", x.pull(0, 0, 0, 0, 1), i);
            due.is("5 is there", x.force(i), 10);
            due.is("5 how many", x.count(0), i + 1);
        }
        due.is("5 no pull 12", x.force(12), BAD);
    }

    // "a ROOM's FLOOR (0 to 3)"
    private static void floorIs0To3() {
        BellPulls x = new BellPulls();
        due.is("5 floor 0", x.pull(0, 15, 0, 0, 1), 0);
        due.is("5 floor 3", x.pull(3, 15, 0, 0, 1), 1);
        x.servant(0, 15, 1);
        due.is("5 kept 0", x.way(0, 0), 0);
        due.is("5 kept 3", x.way(0, 1), 18);
        refused.with(BAD, "pull ? 0 0 0 1", -1, 4, 5, 8, 256, MIN, MIN + 1, MAX);
    }

    // "and place (0 to 30)"
    private static void placeIs0To30() {
        BellPulls x = new BellPulls();
        due.is("5 place 0", x.pull(0, 0, 0, 0, 1), 0);
        due.is("5 place 30", x.pull(0, 30, 0, 0, 1), 1);
        x.servant(0, 15, 1);
        x.servant(0, 0, 1);
        due.is("5 kept 0", x.way(0, 0), 15);
        due.is("5 kept 30", x.way(0, 1), 15);
        due.is("5 from end to end", x.way(1, 1), 30);
        refused.with(BAD, "pull 0 ? 0 0 1", -1, 31, 32, 64, 256, MIN, MIN + 1, MAX);
    }

    // "RANK (0 to 4)"
    private static void rankIs0To4() {
        BellPulls x = new BellPulls();
        due.is("5 rank 0", x.pull(0, 0, 0, 0, 1), 0);
        due.is("5 rank 4", x.pull(0, 0, 4, 0, 1), 1);
        x.ring(0);
        due.is("5 kept 0", x.share(-1), 100);
        x.ring(1);
        due.is("5 kept 4", x.share(-1), 100 + 500);
        refused.with(BAD, "pull 0 0 ? 0 1", -1, 5, 6, 8, 256, MIN, MIN + 1, MAX);
    }

    // "a BELL"
    private static void pullHasABellThatIsThere() {
        BellPulls x = new BellPulls();
        due.is("5 bell 0", x.pull(0, 0, 0, 0, 1), 0);
        due.is("5 bell 7", x.pull(0, 0, 0, 7, 1), 1);
        due.is("5 kept 0", x.ring(0), 1);
        due.is("5 kept 7", x.ring(1), 128);
        refused.with(BAD, "pull 0 0 0 ? 1", -1, 8, 9, 32, 256, MIN, MIN + 1, MAX);
    }

    // "and CRANKS (1 to 5, as bits)"
    private static void cranksOfAPullAre1To5() {
        BellPulls x = new BellPulls();
        due.is("5 crank 0 alone", x.pull(0, 0, 0, 0, 1), 0);
        due.is("5 crank 15 alone", x.pull(0, 0, 0, 0, 1 << 15), 1);
        due.is("5 the lowest five", x.pull(0, 0, 0, 0, 0b11111), 2);
        due.is("5 the highest five", x.pull(0, 0, 0, 0, 0xF800), 3);
        due.is("5 five apart", x.pull(0, 0, 0, 0, 0b1001001001001000), 4);
        x.crank(15, 9);
        due.is("5 kept", x.force(0), 10);
        due.is("5 kept 15", x.force(1), 1);
        due.is("5 kept the lowest", x.force(2), 10);
        due.is("5 kept the highest", x.force(3), 1);
        due.is("5 kept those apart", x.force(4), 1);
        refused.with(BAD, "pull 0 0 0 0 ?", 0, 0b111111, 0xFC00, 0b1001001001001011, 0xFFFF);
        refused.with(BAD, "pull 0 0 0 0 ?", 1 << 16, 1 << 16 | 1, 0xF8000, -1, -2, -65535);
        refused.with(BAD, "pull 0 0 0 0 ?", MIN, MIN | 1, MAX, 1 << 30);
    }

    // "BAD; FULL: 12."
    private static void pullsAreFullAt12() {
        BellPulls x = new BellPulls();
        for (int i = 0; i < 11; i++) {
            x.pull(0, 0, 0, 0, 1);
        }
        due.is("5 the last that finds room", x.pull(3, 30, 4, 7, 0xF800), 11);
        due.is("5 the first that does not", x.pull(0, 0, 0, 0, 1), FULL);
        due.is("5 the last stays as it is", x.ring(11), 128);
        refused.in(House.FULL, FULL, "pull 0 0 0 0 1", "pull 3 30 4 7 63488");
        refused.in(House.FULL, BAD, "pull 4 0 0 0 1", "pull 0 31 0 0 1", "pull 0 0 5 0 1",
                "pull 0 0 0 8 1", "pull 0 0 0 0 0", "pull 0 0 0 0 63", "pull MIN MIN MIN MIN MIN");
    }

    // "(a row of pairs, 4 at most)"; "how many pairs"; "FULL: 4."
    private static void pairsAre4AtMost() {
        BellPulls x = new BellPulls();
        due.is("6 first", x.cross(0, 15), 1);
        due.is("6 second", x.cross(15, 14), 2);
        due.is("6 third", x.cross(0, 14), 3);
        due.is("6 the last that finds room", x.cross(1, 2), 4);
        due.is("6 the first that does not", x.cross(3, 4), FULL);
        due.is("6 nor of cranks that are crossed otherwise", x.cross(15, 1), FULL);
        due.is("6 four there were", x.uncross(), 4);
        refused.in(House.FULL, FULL, "cross 3 4", "cross 4 3", "cross 0 2", "cross 15 0");
    }

    // "BAD (a is b, too)"
    private static void crossIsBadForOneCrank() {
        refused.with(BAD, "cross ? 0", -1, 16, 17, 32, -16, MIN, MIN + 1, MAX);
        refused.with(BAD, "cross 15 ?", -1, 16, 17, 31, 47, MIN, MIN + 1, MAX);
        for (int crank = 0; crank < 16; crank++) {
            refused.everywhere(BAD, "cross " + crank + " " + crank);
        }
        refused.everywhere(BAD, "cross -1 -1", "cross 16 16", "cross MAX MAX", "cross MIN MIN");
    }

    // "NO: they are" - in whichever order they were told, and though all four are there
    private static void crossIsNoIfTheyAre() {
        refused.in(House.AT_WORK, NO, "cross 0 2", "cross 2 0", "cross 15 3", "cross 3 15");
        refused.in(House.FULL, NO, "cross 0 1", "cross 1 0", "cross 1 2", "cross 2 1",
                "cross 14 7", "cross 7 14", "cross 8 12", "cross 12 8");
        BellPulls x = House.AT_WORK.furnished();
        due.is("6 0 and 3 are in pairs, but not in one", x.cross(0, 3), 3);
    }

    // "No CRANKS are CROSSED: how many pairs were."
    private static void uncrossAnswersHowManyWere() {
        BellPulls x = new BellPulls();
        due.is("7 none yet", x.uncross(), 0);
        for (int many = 1; many <= 4; many++) {
            for (int i = 0; i < many; i++) {
                due.is("7 crossed", x.cross(i, 15), i + 1);
            }
            due.is("7 how many were", x.uncross(), many);
            due.is("7 none are now", x.uncross(), 0);
        }
    }

    // "FORCE is 10, less HEAT times how many CRANKS it has by 20, cut"
    private static void heatIsCut() {
        for (int many = 1; many <= 5; many++) {
            BellPulls x = onePull((1 << many) - 1);
            for (int heat = 0; heat <= 40; heat++) {
                x.heat(heat);
                int less = 0;
                while ((less + 1) * 20 <= heat * many) {
                    less++;
                }
                due.is("8 " + many + " cranks in heat " + heat, x.force(0), 10 - less);
            }
        }
    }

    // "less SLACK of these, together"
    private static void slackTogether() {
        BellPulls x = onePull(0b1000000000000111);
        x.crank(0, 1);
        due.is("8 one", x.force(0), 9);
        x.crank(15, 1);
        due.is("8 two", x.force(0), 8);
        x.crank(1, 3);
        x.crank(2, 4);
        due.is("8 four", x.force(0), 1);
        x.crank(3, 9);
        x.crank(14, 10);
        due.is("8 not of others", x.force(0), 1);
        x.heat(4);
        due.is("8 16 by 20 is nothing", x.force(0), 1);
        x.heat(5);
        due.is("8 with heat, together", x.force(0), 0);
    }

    // "none (0), if .. it is below 0"
    private static void noForceBelow0() {
        BellPulls x = onePull(0b11111);
        x.crank(0, 9);
        due.is("8 1 is left", x.force(0), 1);
        x.crank(1, 1);
        due.is("8 0 is left", x.force(0), 0);
        x.crank(1, 2);
        due.is("8 one below", x.force(0), 0);
        for (int crank = 1; crank < 5; crank++) {
            x.crank(crank, 9);
        }
        x.heat(40);
        due.is("8 far below", x.force(0), 0);
        due.is("9 nothing rings", x.would(0, 0), 0);
    }

    // "none (0), if one of them is DEAD"
    private static void noForceOverADeadCrank() {
        for (int crank : new int[] {0, 7, 15}) {
            BellPulls x = onePull(0b1000000010000001);
            x.crank(crank, 10);
            due.is("8 dead " + crank, x.force(0), 0);
            due.is("9 dead " + crank, x.would(0, 0), 0);
            x.crank(crank, 9);
            due.is("8 only slack " + crank, x.force(0), 1);
        }
    }

    // "ITS BELL RINGS LOUD, if FORCE is 6 at least and it is WELL"
    private static void loudFrom6On() {
        BellPulls x = onePull(0b1);
        x.crank(0, 4);
        due.is("9 at 6", x.would(0, 0), 2);
        due.is("12 at 6 it swings for 8", x.ring(0) + x.swings(0), 1 + 8);
        x.crank(0, 5);
        due.is("9 at 5", x.would(0, 0), 1);
        x.crank(0, 4);
        x.bell(0, 1, 1);
        due.is("9 mute at 6", x.would(0, 0), 0);
        x.crank(0, 0);
        due.is("9 mute at 10", x.would(0, 0), 0);
    }

    // "WEAK if FORCE is 1 to 5 and it is WELL"
    private static void weakFrom1To5() {
        BellPulls x = onePull(0b11);
        for (int slack = 5; slack <= 9; slack++) {
            x.crank(0, slack);
            due.is("9 at " + (10 - slack), x.would(0, 0), 1);
        }
        x.bell(0, 1, 1);
        due.is("9 mute at 1", x.would(0, 0), 0);
        x.bell(0, 1, 0);
        due.is("12 at 1 it swings for 4", x.ring(0) + x.swings(0), 1 + 4);
        x.crank(1, 1);
        due.is("9 at 0", x.would(0, 0), 0);
        due.is("12 at 0", x.ring(0), 0);
    }

    // "If FORCE is 6 at least, each other PULL that has a CRANK CROSSED with one of its own is
    // pulled, too, weakly"
    private static void pulledAlongFrom6On() {
        BellPulls x = onePull(0b1);
        x.pull(0, 0, 0, 1, 1 << 15);
        x.cross(15, 0);
        x.crank(0, 4);
        due.is("9 at 6", x.would(0, 1), 1);
        due.is("12 at 6", x.ring(0), 0b11);
        x.crank(0, 5);
        due.is("9 at 5", x.would(0, 1), 0);
        due.is("12 at 5", x.ring(0), 0b1);
        x.crank(0, 9);
        due.is("9 at 1", x.would(0, 1), 0);
        x.crank(0, 10);
        due.is("9 dead", x.would(0, 1), 0);
        x.crank(0, 3);
        x.crank(15, 9);
        x.heat(20);
        due.is("8 at 6", x.force(0), 6);
        due.is("8 the other has none", x.force(1), 0);
        due.is("9 the other's own force is no matter", x.would(0, 1), 1);
    }

    // "(if it is another one ..) RINGS WEAK, if it does not ring LOUD by this"
    private static void alongItsOwnBellStaysLoud() {
        BellPulls x = onePull(0b1);
        x.pull(0, 0, 0, 0, 0b10);
        x.pull(0, 0, 0, 1, 0b10);
        x.pull(0, 0, 0, 1, 0b1);
        x.cross(0, 1);
        due.is("9 its own bell by another pull", x.would(0, 0), 2);
        due.is("9 the other bell", x.would(0, 1), 1);
        due.is("10 rings weakly by no pull of its own", x.means(-1, 1, 0b01), 0b1100);
        due.is("10 rings loudly by these", x.means(-1, 2, 0b01), 0b0011);
        x.bell(0, 1, 1);
        due.is("9 its own mute bell by another pull", x.would(0, 0), 0);
        due.is("9 a bell of two pulls, one its own", x.would(3, 1), 2);
    }

    // "(.. and WELL, and none of that PULL's CRANKS is DEAD)"
    private static void alongIfWellAndNotDead() {
        BellPulls x = onePull(0b1);
        x.pull(0, 0, 0, 1, 0b10000010);
        x.pull(0, 0, 0, 2, 0b10);
        x.cross(0, 1);
        due.is("12 both", x.ring(0), 0b111);
        x.crank(7, 10);
        due.is("12 one has a dead crank elsewhere", x.ring(0), 0b101);
        x.crank(7, 9);
        due.is("12 slack is no matter", x.ring(0), 0b111);
        x.bell(2, 1, 1);
        due.is("12 one is mute", x.ring(0), 0b011);
        x.crank(1, 10);
        due.is("12 the crossed crank is dead", x.ring(0), 0b001);
    }

    // "CROSSED may be two CRANKS (a row of pairs, 4 at most): who pulls over the one pulls over
    // the other, too."
    private static void alongByEachOfTheRowOfPairs() {
        BellPulls x = onePull(0b1);
        for (int i = 1; i < 8; i++) {
            x.pull(0, 0, 0, i, 1 << i);
        }
        for (int i = 1; i <= 4; i++) {
            x.cross(0, i);
            due.is("12 with " + i + " pairs", x.ring(0), (2 << i) - 1);
            due.is("12 back over the last", x.ring(i), 1 | 1 << i);
        }
        x.cross(0, 5);
        due.is("12 the fifth was refused", x.ring(0), 0b11111);
        x.uncross();
        due.is("12 none is crossed", x.ring(0), 1);
        x.cross(7, 0);
        due.is("12 crossed anew", x.ring(0), 0b10000001);
    }

    // "each other PULL that has a CRANK CROSSED with one of its own" - there may be none
    private static void alongNoPullAtAll() {
        BellPulls x = new BellPulls();
        x.pull(0, 0, 0, 7, 0b1);
        x.cross(0, 15);
        due.is("12 no other pull", x.ring(0), 128);
        x.pull(0, 0, 0, 6, 0b1);
        due.is("12 none over the other crank", x.ring(0), 128);
        x.pull(0, 0, 0, 5, 1 << 15);
        due.is("12 one over the other crank", x.ring(0), 128 | 32);
        BellPulls y = new BellPulls();
        y.pull(0, 0, 0, 7, 0b11);
        y.cross(0, 1);
        due.is("12 it is no other pull itself", y.ring(0), 128);
        due.is("10 nor rings its bell weakly", y.means(-1, 1, -1), 0);
    }

    // "FORCE of a PULL. BAD."
    private static void forceOfAPullThatIsThere() {
        refused.in(House.NEW, BAD, "force 0");
        refused.in(House.AT_WORK, BAD, "force 6");
        refused.with(BAD, "force ?", -1, 12, 13, 16, 32, MIN, MIN + 1, MAX);
        due.is("8 the last that is there", House.AT_WORK.furnished().force(5), 7);
        due.is("8 the twelfth", House.FULL.furnished().force(11), 5);
    }

    // "What would RING by a PULL: of BELL b 2 LOUD, 1 WEAK, 0. BAD."
    private static void wouldOfThingsThatAreThere() {
        refused.in(House.NEW, BAD, "would 0 0", "would 0 7");
        refused.in(House.AT_WORK, BAD, "would 6 0");
        refused.with(BAD, "would ? 0", -1, 12, 13, 16, MIN, MIN + 1, MAX);
        refused.with(BAD, "would 0 ?", -1, 8, 9, 32, -32, MIN, MIN + 1, MAX);
        BellPulls x = House.FULL.furnished();
        due.is("9 the twelfth pull", x.would(11, 3), 1);
        due.is("9 the last bell", x.would(7, 7), 2);
        due.is("9 the first bell", x.would(0, 0), 2);
        due.is("9 it rings nothing", x.count(5), 12);
    }

    // "heard TONE (-1: any)"
    private static void meansTone() {
        BellPulls x = onePull(0b1);
        x.pull(0, 0, 0, 7, 0b10);
        x.bell(7, 0, 5);
        due.is("10 any", x.means(-1, 0, -1), 0b11);
        due.is("10 the least", x.means(0, 0, -1), 0b01);
        due.is("10 the greatest", x.means(5, 0, -1), 0b10);
        due.is("10 that of no pull", x.means(4, 0, -1), 0);
        refused.with(BAD, "means ? 0 -1", -2, 6, 7, MIN, MIN + 1, MAX);
    }

    // "LOUD (2), WEAK (1), or either (0)"
    private static void meansLoud() {
        BellPulls x = onePull(0b1);
        x.pull(0, 0, 0, 7, 0b10);
        x.pull(0, 0, 0, 6, 0b100);
        x.crank(1, 9);
        x.crank(2, 10);
        due.is("10 either", x.means(-1, 0, -1), 0b011);
        due.is("10 weak", x.means(-1, 1, -1), 0b010);
        due.is("10 loud", x.means(-1, 2, -1), 0b001);
        refused.with(BAD, "means -1 ? -1", -1, -2, 3, 4, MIN, MIN + 1, MAX);
    }

    // "with BELLS that SWING known as bits (-1: not seen)"
    private static void meansSwing() {
        BellPulls x = onePull(0b1);
        x.pull(0, 0, 0, 7, 0b10);
        due.is("10 not seen", x.means(-1, 0, -1), 0b11);
        due.is("10 none of them", x.means(-1, 0, 0), 0);
        due.is("10 the first", x.means(-1, 0, 1), 0b01);
        due.is("10 the last", x.means(-1, 0, 128), 0b10);
        due.is("10 all but these", x.means(-1, 0, 0b01111110), 0);
        due.is("10 all", x.means(-1, 0, 255), 0b11);
        refused.with(BAD, "means -1 0 ?", -2, -3, 256, 257, 511, -128, -256, MIN, MIN | 1, MAX);
        refused.everywhere(BAD, "means -2 -1 -2", "means 6 3 256", "means MIN MAX MIN");
    }

    // "all PULLS by which, pulled alone now, a BELL of this TONE RINGS so, and is among these"
    private static void meansBells() {
        BellPulls x = new BellPulls();
        due.is("10 no pulls yet", x.means(-1, 0, -1), 0);
        for (int i = 0; i < 12; i++) {
            x.pull(0, 0, 0, 0, 1 << i);
        }
        due.is("10 all twelve", x.means(0, 2, 1), 4095);
        x.bell(0, 1, 1);
        due.is("10 none when it is mute", x.means(-1, 0, -1), 0);
        BellPulls y = onePull(0b1);
        y.pull(0, 0, 0, 1, 0b10);
        y.bell(1, 0, 1);
        y.cross(0, 1);
        due.is("10 loud of this tone", y.means(1, 2, -1), 0b10);
        due.is("10 weak of this tone", y.means(1, 1, -1), 0b01);
        due.is("10 tone, loudness and swing of one bell", y.means(1, 2, 0b01), 0);
        y.crank(0, 10);
        due.is("10 as the cranks are now", y.means(1, 0, -1), 0b10);
        y.heat(40);
        y.crank(1, 8);
        due.is("10 as the heat is now", y.means(-1, 0, -1), 0);
    }
}
