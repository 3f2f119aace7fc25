import java.util.function.Supplier;

/** Part 2 of the terms and promises 12 to 17: worlds, tones, metres and houses, one test a sentence. */
public final class WorldEdgesTest {
    private static final int NONE = BuriedPairs.NONE;
    private static final int ALL = 15;

    public static void main(String[] args) {
        worldsAreSetsOfFaults();
        slipsAreDoneButForThatFault();
        heardOfNoSuchOnes();
        metresOfNoSuchOnes();
        fedOfNoSuchOnes();
        fedOfOneThatHangsNowhere();
        servedOfNoSuchOnes();
        neighboursOfNoSuchOnes();
        neighboursOfOneThatHangsNowhere();
        spareOfNoSuchOnes();
        spareWhereNoCableComes();
        swapsOneBehindTheOther();
        aBreakAtNought();
        aBreakAtTheEnd();
        aTouchAndABreakAtEachMetre();
        aTouchToldTheOtherWayAbout();
        aTouchAtNoughtAndAtTheEnd();
        tenBreaksOfOneWire();
        tenTouchesOfOneWire();
        dryNothingTouches();
        metresAlsoToATouchWhereOneStands();
        metresThroughJoints();
        metresWhereAHouseHangs();
        metresOverTheLongestRow();
        theFirstAndTheLastPairOfTheExchange();
        servedByOneJust();
        neighboursAreOthers();
        sparesAreFedAndLeadToNothing();
        sparesAreThoseOfTheWorld();
        theQuestionsChangeNothing();
        Check.finish("WorldEdgesTest");
    }

    private static Edges furnished(String name, Edges.Call call, int... fine) {
        return new Edges(name, Towns::furnished, call, NONE, fine);
    }

    private static long heard(BuriedPairs town, int... n) {
        return town.heard(n[0], n[1], false, n[2], n[3], n[4], n[5], n[6]);
    }

    private static long metres(BuriedPairs town, int... n) {
        return town.metres(n[0], n[1], false, n[2], n[3], n[4]);
    }

    // "A WORLD is a set of FAULTS (bits)": with none there is one, with ten there are 1024.
    private static void worldsAreSetsOfFaults() {
        Edges.Call served = (town, n) -> town.served(n[0], n[1], false);
        Supplier<BuriedPairs> without = () -> Check.town(Towns.SECOND);
        new Edges("no fault", without, served, NONE, 0, 0).goes(1, 0, 3, 0, 3);
        Supplier<BuriedPairs> one = () -> {
            BuriedPairs town = Check.town(Towns.SECOND);
            town.trouble(0, 1, 0, 0, 0, 5);
            return town;
        };
        new Edges("one fault", one, served, NONE, 0, 0).goes(1, 0, 3, 1, 2);
        Supplier<BuriedPairs> ten = () -> {
            BuriedPairs town = Check.town(Towns.SECOND);
            for (int fault = 0; fault < 10; fault++) {
                town.trouble(0, 1, 0, fault < 9 ? 1 : 0, 0, fault % 5);
            }
            return town;
        };
        new Edges("ten faults", ten, served, NONE, 0, 0)
            .goes(1, 0, 3, 1023, 0)
            .takes(2, 0, 512)
            .takes(1, 0, 511);
    }

    // "3 UNDONE: a SLIP was never done": by a fault of no other kind.
    private static void slipsAreDoneButForThatFault() {
        BuriedPairs town = Check.town("b 3;c 0 1 3 5;c 0 2 3 5");
        town.slip(0, 1, 0, 0, 6, 0);
        town.slip(0, 1, 0, 1, 7, 0);
        town.trouble(0, 0, 1, 0, 1, 0);
        town.trouble(0, 1, 1, 0, 1, 1);
        town.trouble(0, 2, 1, 0, 1, 1);
        town.trouble(0, 3, 1, 0, 0, 0);
        town.trouble(0, 3, 0, 0, 0, 0);
        for (int world = 0; world < 32; world++) {
            long six = world < 16 ? 1 : NONE;
            long seven = (world & 8) == 0 ? 2 : NONE;
            Check.due("house 6 in world " + world, town.fed(0, world, true, 6), six);
            Check.due("house 7 in world " + world, town.fed(0, world, true, 7), seven);
        }
    }

    // Promise 12: "NONE: no such ones, WORLD."
    private static void heardOfNoSuchOnes() {
        furnished("heard", WorldEdgesTest::heard, 0, 0, 0, 0, 0, 1, 1)
            .goes(0, 0, 1, 1, 2)
            .goes(1, 0, 1, ALL, 0)
            .goes(2, 0, 1, 3, 0)
            .goes(3, 0, 1, 5, 8)
            .goes(4, 0, 1, 1, 1)
            .goes(5, 0, 1, 3, 0)
            .goes(6, 0, 1, 1, 1)
            .refuses(1, 2, 0, 0, 0, 0, 0)
            .refuses(0, 0, 2, 2, 0, 1, 1)
            .refuses(1, 0, 2, 0, 0, 0, 0)
            .refuses(1, 0, 0, 0, 0, 2, 0);
    }

    // Promise 13: "NONE: no such ones, WORLD."
    private static void metresOfNoSuchOnes() {
        furnished("metres", WorldEdgesTest::metres, 0, 0, 0, 0, 0)
            .goes(0, 0, 117, 1, 33)
            .goes(1, 0, 117, ALL, 60)
            .goes(2, 0, 117, 3, 33)
            .goes(3, 0, 117, 5, 116)
            .goes(4, 0, 117, 1, 36)
            .refuses(0, 0, 3, 2, 0)
            .refuses(1, 2, 0, 0, 0);
    }

    // Promise 14: "NONE: .. no such ones."
    private static void fedOfNoSuchOnes() {
        furnished("fed", (town, n) -> town.fed(n[0], n[1], false, n[2]), 0, 0, 1)
            .goes(0, 0, 1, 1, 2)
            .goes(1, 0, 1, ALL, 2);
        furnished("fed, the house", (town, n) -> town.fed(n[0], n[1], true, n[2]), 0, 0, 1)
            .goes(2, 0, 0, 5, 8)
            .takes(0, 0, 0, 9)
            .refuses(0, 0, 10);
    }

    // Promise 14: "NONE: it hangs nowhere": in that world.
    private static void fedOfOneThatHangsNowhere() {
        Edges fed = new Edges("fed", Towns::movedBySlips, (town, n) -> town.fed(n[0], n[1], false, n[2]), NONE, 0, 0, 0);
        fed.refuses(0, 0, 0).takes(1, 0, 1, 0);
        fed.takes(1, 0, 0, 1).refuses(0, 1, 1).refuses(0, 3, 1);
        fed.refuses(0, 2, 2).takes(2, 0, 0, 2);
    }

    // Promise 15: "NONE: no such ones."
    private static void servedOfNoSuchOnes() {
        furnished("served", (town, n) -> town.served(n[0], n[1], false), 0, 0)
            .goes(0, 0, 14, 1, 3)
            .goes(1, 0, 14, ALL, 26)
            .refuses(1, 2);
        furnished("served, wet", (town, n) -> town.served(n[0], n[1], true), 0, 0).goes(1, 0, 14, ALL, 16);
    }

    // Promise 16: "NONE: .. no such ones."
    private static void neighboursOfNoSuchOnes() {
        furnished("neighbours", (town, n) -> town.neighbours(n[0], n[1], true, n[2]), 0, 0, 1)
            .goes(0, 0, 0, 1, 0)
            .goes(1, 0, 0, ALL, 8)
            .goes(2, 0, 0, 5, 16)
            .takes(0, 0, 0, 9)
            .takes(32, 0, 0, 4)
            .takes(0, 0, 8, 4)
            .refuses(0, 0, 10);
    }

    // Promise 16: "NONE: it hangs nowhere": in that world.
    private static void neighboursOfOneThatHangsNowhere() {
        Edges hear = new Edges("neighbours", Towns::movedBySlips, (t, n) -> t.neighbours(n[0], n[1], false, n[2]), NONE, 0, 0, 0);
        hear.refuses(0, 0, 0).takes(0, 0, 1, 0);
        hear.takes(0, 0, 0, 1).refuses(0, 1, 1);
        hear.refuses(0, 2, 2).takes(0, 0, 0, 2);
    }

    // Promise 17: "NONE: .. no such ones."
    private static void spareOfNoSuchOnes() {
        furnished("spare", (town, n) -> town.spare(n[0], n[1], n[2]), 0, 0, 1)
            .goes(0, 0, 16, 1, 0)
            .goes(1, 0, 16, ALL, 16)
            .goes(2, 1, 16, 4, 0)
            .refuses(0, 0, 6)
            .refuses(1, 2, 1)
            .refuses(1, 0, 3);
    }

    // Promise 17: "NONE: no CABLE comes there"; "SPARE at a BOX (but 0)"
    private static void spareWhereNoCableComes() {
        Edges spare = furnished("spare", (town, n) -> town.spare(n[0], n[1], n[2]), 0, 0, 1);
        spare.refuses(0, 0, 0).refuses(0, 0, 5).takes(8, 0, 0, 2);
        BuriedPairs lone = Check.town("b 3;c 1 2 2 5");
        Check.due("none comes to box 1, though one goes", lone.spare(0, 0, 1), NONE);
        Check.due("none feeds the one to box 2", lone.spare(0, 0, 2), 0);
    }

    // "SWAP .. (several: one behind the other, as told)"
    private static void swapsOneBehindTheOther() {
        BuriedPairs town = Check.town("b 2;c 0 1 6 5");
        town.trouble(0, 0, 0, 0, 5, 0);
        town.trouble(0, 0, 0, 5, 0, 0);
        town.trouble(0, 0, 0, 5, 3, 0);
        int[] comesOut = {0, 5, 5, 0, 0, 3, 3, 0};
        for (int world = 0; world < 8; world++) {
            int out = comesOut[world];
            Check.due("pair 0 in world " + world, town.heard(0, world, true, 0, 0, 0, 0, 1), 1 << out);
            Check.due("and back", town.heard(0, world, true, 0, out, 1, 0, 0), 1);
        }
        Check.due("told the other way about: 3 to 5 to 0", town.heard(0, 5, true, 0, 5, 0, 0, 1), 1);
        Check.due("and 3 to 5 alone", town.heard(0, 5, true, 0, 3, 0, 0, 1), 32);
    }

    /** Two cables in a row with a break at d of pair 0 of the second, 4 metres long. */
    private static BuriedPairs cutAt(int d) {
        BuriedPairs town = Check.town("b 3;c 0 1 2 3;c 1 2 2 4;j 0 0 1 0;j 0 1 1 1;h 1 0 6");
        town.trouble(0, 1, 1, 0, 0, d);
        return town;
    }

    // "A BREAK at 0 cuts it off from its near end"
    private static void aBreakAtNought() {
        BuriedPairs town = cutAt(0);
        Check.due("the near end hears the cable before", town.heard(0, 1, false, 1, 0, 0, 0, 0), 1);
        Check.due("but not the far end", town.heard(0, 1, false, 1, 0, 0, 1, 1), 0);
        Check.due("the far end hears itself", town.heard(0, 1, false, 1, 0, 1, 1, 1), 1);
        Check.due("but not the near end", town.heard(0, 1, false, 1, 0, 1, 1, 0), 0);
        Check.due("metres from the near end", town.metres(0, 1, false, 1, 0, 0), 0);
        Check.due("metres from the far end", town.metres(0, 1, false, 1, 0, 1), 16);
        Check.due("metres from the exchange", town.metres(0, 1, false, 0, 0, 0), 12);
        Check.due("it feeds none", town.fed(0, 1, false, 6), 0);
    }

    // "one at L from its far end"
    private static void aBreakAtTheEnd() {
        BuriedPairs town = cutAt(4);
        Check.due("the near end hears itself", town.heard(0, 1, false, 1, 0, 0, 1, 0), 1);
        Check.due("but not the far end", town.heard(0, 1, false, 1, 0, 0, 1, 1), 0);
        Check.due("the far end hears itself", town.heard(0, 1, false, 1, 0, 1, 1, 1), 1);
        Check.due("but not the near end", town.heard(0, 1, false, 1, 0, 1, 1, 0), 0);
        Check.due("metres from the near end, short of the house", town.metres(0, 1, false, 1, 0, 0), 16);
        Check.due("metres from the far end", town.metres(0, 1, false, 1, 0, 1), 0);
        Check.due("it feeds none", town.fed(0, 1, false, 6), 0);
        Check.due("the uncut pair alone is spare", town.spare(0, 1, 2), 2);
    }

    // "What lies at d metres is nearer than a BREAK at more than d, and behind one at d or less."
    private static void aTouchAndABreakAtEachMetre() {
        for (int touch = 0; touch <= 4; touch++) {
            for (int cut = 0; cut <= 4; cut++) {
                BuriedPairs town = cutAt(cut);
                town.trouble(0, 2, 1, 0, 1, touch);
                boolean behind = cut <= touch;
                String name = "touch at " + touch + ", break at " + cut;
                Check.due(name + ": 1 to near ends", town.heard(0, 3, true, 1, 1, 0, 1, 0), behind ? 2 : 3);
                Check.due(name + ": 1 to far ends", town.heard(0, 3, true, 1, 1, 0, 1, 1), behind ? 3 : 2);
                Check.due(name + ": from near", town.metres(0, 3, true, 1, 0, 0), behind ? 4 * cut : 4 * touch + 2);
                int back = behind ? 4 * (4 - touch) + 2 : 4 * (4 - cut);
                Check.due(name + ": from far", town.metres(0, 3, true, 1, 0, 1), back);
                Check.due(name + ": of the other", town.metres(0, 3, true, 1, 1, 0), 4 * touch + 2);
                Check.due(name + ": fed", town.fed(0, 3, true, 6), behind ? 2 : 0);
            }
        }
    }

    // "PAIRS P and Q (likewise) touch": it is the same for either.
    private static void aTouchToldTheOtherWayAbout() {
        for (int touch = 0; touch <= 4; touch++) {
            for (int cut = 0; cut <= 4; cut++) {
                BuriedPairs town = cutAt(cut);
                town.trouble(0, 2, 1, 0, 1, touch);
                town.trouble(0, 2, 1, 1, 0, touch);
                for (int pair = 0; pair < 2; pair++) {
                    for (int end = 0; end < 4; end++) {
                        int one = town.heard(0, 3, true, 1, pair, end / 2, 1, end % 2);
                        Check.due("heard", town.heard(0, 5, true, 1, pair, end / 2, 1, end % 2), one);
                        Check.due("by both", town.heard(0, 7, true, 1, pair, end / 2, 1, end % 2), one);
                    }
                    Check.due("metres", town.metres(0, 5, true, 1, pair, 0), town.metres(0, 3, true, 1, pair, 0));
                    Check.due("back", town.metres(0, 5, true, 1, pair, 1), town.metres(0, 3, true, 1, pair, 1));
                }
                Check.due("near end to near ends", town.heard(0, 5, true, 1, 0, 0, 1, 0), cut <= touch ? 1 : 3);
                Check.due("far end to far ends", town.heard(0, 5, true, 1, 0, 1, 1, 1), cut <= touch ? 3 : 1);
            }
        }
    }

    // "FAULTS (10 at most": all of them breaks of one pair.
    private static void tenBreaksOfOneWire() {
        BuriedPairs town = Check.town("b 3;c 0 1 2 9;c 1 2 2 9;j 0 0 1 0;j 0 1 1 1;h 1 0 0");
        for (int d = 9; d >= 0; d--) {
            town.trouble(0, 1, 0, 0, 0, d);
        }
        Check.due("from near at once", town.metres(0, 1023, false, 0, 0, 0), 0);
        Check.due("from far at once", town.metres(0, 1023, false, 0, 0, 1), 0);
        Check.due("near hears itself", town.heard(0, 1023, false, 0, 0, 0, 0, 0), 1);
        Check.due("and not far", town.heard(0, 1023, false, 0, 0, 0, 0, 1), 0);
        Check.due("far hears itself", town.heard(0, 1023, false, 0, 0, 1, 0, 1), 1);
        Check.due("and not near", town.heard(0, 1023, false, 0, 0, 1, 0, 0), 0);
        Check.due("and goes on from there", town.heard(0, 1023, false, 0, 0, 1, 1, 1), 1);
        Check.due("but the first: nine from near", town.metres(0, 1, false, 0, 0, 0), 36);
        Check.due("but the last: nine from far", town.metres(0, 512, false, 0, 0, 1), 36);
        Check.due("the other is whole", town.heard(0, 1023, false, 0, 1, 0, 1, 1), 2);
    }

    // "FAULTS (10 at most": all of them touches of one pair.
    private static void tenTouchesOfOneWire() {
        BuriedPairs town = Check.town("b 2;c 0 1 6 9");
        for (int fault = 0; fault < 10; fault++) {
            town.trouble(0, 2, 0, fault % 5 + 1, 0, 9 - fault);
        }
        Check.due("all hear it", town.heard(0, 1023, true, 0, 0, 0, 0, 1), 63);
        Check.due("and it hears the last", town.heard(0, 1023, true, 0, 5, 1, 0, 0), 63);
        Check.due("dry none", town.heard(0, 1023, false, 0, 5, 1, 0, 0), 32);
        Check.due("the first from near", town.metres(0, 1023, true, 0, 0, 0), 2);
        Check.due("the first from far", town.metres(0, 1023, true, 0, 0, 1), 2);
        Check.due("of another its own first", town.metres(0, 1023, true, 0, 1, 0), 18);
        Check.due("of another its own first from far", town.metres(0, 1023, true, 0, 1, 1), 2);
    }

    // "a TOUCH at L lies behind one there"; one at 0 lies behind one at 0, too.
    private static void aTouchAtNoughtAndAtTheEnd() {
        BuriedPairs town = Check.town("b 2;c 0 1 2 4");
        town.trouble(0, 2, 0, 0, 1, 4);
        town.trouble(0, 1, 0, 0, 0, 4);
        town.trouble(0, 1, 0, 1, 0, 4);
        Check.due("behind both: far ends touch", town.heard(0, 7, true, 0, 0, 1, 0, 1), 3);
        Check.due("and near ends do not", town.heard(0, 7, true, 0, 0, 0, 0, 0), 1);
        BuriedPairs near = Check.town("b 2;c 0 1 2 4");
        near.trouble(0, 2, 0, 0, 1, 0);
        near.trouble(0, 1, 0, 0, 0, 0);
        near.trouble(0, 1, 0, 1, 0, 0);
        Check.due("behind both at 0: far ends touch", near.heard(0, 7, true, 0, 0, 1, 0, 1), 3);
        Check.due("and near ends do not", near.heard(0, 7, true, 0, 0, 0, 0, 0), 1);
        Check.due("without breaks all do", near.heard(0, 1, true, 0, 0, 0, 0, 0), 3);
    }

    // "TOUCHES (if WET)"
    private static void dryNothingTouches() {
        BuriedPairs town = Towns.furnished();
        Check.due("heard, dry", town.heard(0, 4, false, 0, 1, 0, 0, 0), 2);
        Check.due("heard, wet", town.heard(0, 4, true, 0, 1, 0, 0, 0), 6);
        Check.due("metres, dry", town.metres(0, 4, false, 0, 1, 0), 117);
        Check.due("metres, wet", town.metres(0, 4, true, 0, 1, 0), 18);
        Check.due("fed, dry", town.fed(0, 4, false, 2), 2);
        Check.due("fed, wet", town.fed(0, 4, true, 2), 6);
        Check.due("served, dry", town.served(0, 4, false), 14);
        Check.due("served, wet", town.served(0, 4, true), 2);
        Check.due("neighbours, dry", town.neighbours(0, 4, false, 2), 0);
        Check.due("neighbours, wet", town.neighbours(0, 4, true, 2), 8);
        Check.due("wet without the fault", town.neighbours(0, 0, true, 2), 0);
    }

    // "to the first TOUCH (if WET; also one at where one stands)"
    private static void metresAlsoToATouchWhereOneStands() {
        BuriedPairs town = Check.town("b 3;c 0 1 2 3;c 1 2 2 4;j 0 0 1 0;h 1 0 6");
        town.trouble(0, 2, 1, 0, 1, 0);
        town.trouble(0, 2, 1, 1, 0, 4);
        Check.due("at 0, from the near end", town.metres(0, 1, true, 1, 0, 0), 2);
        Check.due("of the other, too", town.metres(0, 1, true, 1, 1, 0), 2);
        Check.due("at L, from the far end", town.metres(0, 2, true, 1, 0, 1), 2);
        Check.due("of the other, too", town.metres(0, 2, true, 1, 1, 1), 2);
        Check.due("at L, from the near end: not the house", town.metres(0, 2, true, 1, 0, 0), 18);
        Check.due("at 0, from the far end", town.metres(0, 1, true, 1, 0, 1), 18);
        Check.due("of two the first", town.metres(0, 3, true, 1, 0, 0), 2);
        Check.due("through the joint, at its metre", town.metres(0, 1, true, 0, 0, 0), 14);
        Check.due("dry, to the house", town.metres(0, 3, false, 0, 0, 0), 29);
    }

    // "if a JOINT is there, on from it (.. or, at a near end, into that before)"
    private static void metresThroughJoints() {
        BuriedPairs town = Check.town("b 4;c 0 1 3 3;c 1 2 3 4;c 2 3 3 5;j 0 0 1 1;j 1 2 2 0");
        town.trouble(0, 0, 1, 1, 2, 0);
        Check.due("to where no joint is", town.metres(0, 0, false, 0, 0, 0), 28);
        Check.due("by a swap to the end of all", town.metres(0, 1, false, 0, 0, 0), 48);
        Check.due("and back", town.metres(0, 1, false, 2, 0, 1), 48);
        Check.due("back by no swap: to where none comes", town.metres(0, 0, false, 2, 0, 1), 36);
        Check.due("from the middle's near end", town.metres(0, 1, false, 1, 1, 0), 36);
        Check.due("from the middle's far end", town.metres(0, 1, false, 1, 2, 1), 28);
    }

    // "1 if it ends where a HOUSE hangs, 2 at a TOUCH, else 0"
    private static void metresWhereAHouseHangs() {
        BuriedPairs town = Towns.furnished();
        Check.due("at a house", town.metres(0, 0, false, 1, 0, 0), 81);
        Check.due("at none", town.metres(0, 0, false, 1, 3, 0), 80);
        Check.due("past one where a joint is", town.metres(0, 0, false, 0, 3, 0), 117);
        Check.due("at it, where the joint was not made", town.metres(0, 8, false, 0, 3, 0), 37);
        Check.due("away from it", town.metres(0, 0, false, 1, 0, 1), 116);
        Check.due("back to a near end in the box of one", town.metres(0, 0, false, 2, 1, 1), 28);
        Check.due("at a break", town.metres(0, 2, false, 1, 1, 0), 24);
        BuriedPairs houses = Check.town("b 2;c 0 1 6 1;h 0 0 0;h 0 5 9");
        Check.due("house 0", houses.metres(0, 0, false, 0, 0, 0), 5);
        Check.due("house 9", houses.metres(0, 0, false, 0, 5, 0), 5);
    }

    // 8 boxes, 7 cables, 99 metres each: the farthest that METRES can tell.
    private static void metresOverTheLongestRow() {
        BuriedPairs town = Towns.longest();
        Check.due("693 metres, a house", town.metres(0, 0, true, 0, 0, 0), 4 * 693 + 1);
        Check.due("and back", town.metres(0, 0, true, 6, 0, 1), 4 * 693);
        town.trouble(0, 1, 6, 0, 0, 99);
        town.trouble(0, 2, 6, 0, 1, 99);
        Check.due("to a break at its very end", town.metres(0, 1, true, 0, 0, 0), 4 * 693);
        Check.due("to a touch at its very end", town.metres(0, 2, true, 0, 0, 0), 4 * 693 + 2);
        Check.due("the tone comes through", town.heard(0, 0, false, 0, 0, 0, 6, 1), 1);
        Check.due("and back", town.heard(0, 0, false, 6, 0, 1, 0, 0), 1);
    }

    // "PAIRS of CABLES that begin at the EXCHANGE (numbered through, CABLE by CABLE, PAIR by PAIR)"
    private static void theFirstAndTheLastPairOfTheExchange() {
        BuriedPairs town = Check.town("b 8;c 0 1 6 1;c 0 2 6 1;c 0 3 6 1;c 0 4 6 1;c 0 5 6 1;c 0 6 6 1;c 0 7 6 1"
            + ";h 0 0 0;h 0 5 1;h 1 0 2;h 5 1 3;h 5 2 4;h 6 5 9");
        long[] bits = {1L, 1L << 5, 1L << 6, 1L << 31, 1L << 32};
        for (int house = 0; house < bits.length; house++) {
            Check.due("house " + house, town.fed(0, 0, false, house), bits[house]);
        }
        Check.due("the last of 42", town.fed(0, 0, false, 9), 1L << 41);
        Check.due("all are served", town.served(0, 0, false), 0x21f);
        BuriedPairs mixed = Check.town("b 5;c 1 2 6 1;c 0 1 2 1;c 3 4 6 1;c 0 3 3 1;h 3 0 5;j 3 2 2 4;h 2 4 6;h 0 0 7");
        Check.due("those of other cables are not numbered", mixed.fed(0, 0, false, 5), 4);
        Check.due("along a joint", mixed.fed(0, 0, false, 6), 16);
        Check.due("by none", mixed.fed(0, 0, false, 7), 0);
    }

    // "SERVED: by one just, and by that no other HOUSE."
    private static void servedByOneJust() {
        BuriedPairs town = Check.town("b 3;c 0 1 4 5;c 1 2 4 5;j 0 0 1 0;j 0 1 1 1;h 1 0 0;h 1 1 9;h 1 2 5");
        Check.due("one each; 5 by none", town.served(0, 0, false), 513);
        town.trouble(0, 2, 0, 0, 2, 2);
        town.trouble(0, 2, 1, 0, 2, 2);
        town.trouble(0, 2, 1, 0, 1, 2);
        Check.due("0 by two", town.served(0, 1, true), 512);
        Check.due("0 and 5 by the same", town.served(0, 2, true), 512);
        Check.due("0 and 9 by both", town.served(0, 4, true), 0);
        Check.due("dry", town.served(0, 7, false), 513);
        Check.due("no house, none is served", Check.town("b 2;c 0 1 1 1").served(0, 0, false), 0);
        Check.due("no cable, none is served", Check.town("b 2").served(0, 0, true), 0);
        BuriedPairs row = Check.town("b 3;c 0 1 1 5;c 1 2 1 5;j 0 0 1 0;h 0 0 3;h 1 0 4");
        Check.due("two on one wire", row.served(0, 0, false), 0);
        row.trouble(0, 1, 1, 0, 0, 0);
        Check.due("cut between them: the nearer one", row.served(0, 1, false), 8);
    }

    // "NEIGHBOURS of a HOUSE: others"
    private static void neighboursAreOthers() {
        BuriedPairs town = Check.town("b 3;c 0 1 2 5;c 1 2 2 5;j 0 0 1 0;h 0 0 0;h 1 0 9;h 1 1 5");
        Check.due("0 hears 9, not itself", town.neighbours(0, 0, false, 0), 512);
        Check.due("9 hears 0", town.neighbours(0, 0, false, 9), 1);
        Check.due("5 hears none", town.neighbours(0, 0, false, 5), 0);
        town.trouble(0, 2, 1, 0, 1, 5);
        Check.due("5, wet, though nothing feeds it", town.neighbours(0, 1, true, 5), 513);
        Check.due("0, wet", town.neighbours(0, 1, true, 0), 544);
    }

    // "that some PAIR of the EXCHANGE feeds, that lead to no HOUSE and to no JOINT there"
    private static void sparesAreFedAndLeadToNothing() {
        BuriedPairs town = Check.town("b 3;c 0 1 6 5;c 1 2 6 5;j 0 0 1 5;j 0 5 1 0;h 0 1 0;h 1 5 9");
        Check.due("all but both joints and the house", town.spare(0, 0, 1), 28);
        Check.due("fed: 0 and 5, but house 9 hangs at 5", town.spare(0, 0, 2), 1);
        town.trouble(0, 1, 0, 5, 0, 0);
        town.trouble(0, 1, 0, 4, 0, 5);
        town.trouble(0, 0, 0, 4, 3, 0);
        Check.due("cut at 0", town.spare(0, 1, 2), 0);
        Check.due("cut at L", town.spare(0, 2, 1), 12);
        Check.due("by the numbers of its far end", town.spare(0, 6, 1), 20);
        town.trouble(0, 2, 0, 4, 2, 5);
        Check.due("not wet: a touch feeds none", town.spare(0, 10, 1), 12);
        Check.due("one cable of one pair", Check.town("b 2;c 0 1 1 1").spare(0, 0, 1), 1);
        Check.due("all six", Check.town("b 2;c 0 1 6 1").spare(0, 0, 1), 63);
    }

    // "SPARE at a BOX": houses and joints are those of the world that is asked for, not those of all slips.
    private static void sparesAreThoseOfTheWorld() {
        BuriedPairs town = Check.town("b 3;c 0 1 4 9;c 1 2 2 5;h 0 0 3;j 0 2 1 0");
        town.slip(0, 1, 0, 1, 3, 0);
        town.slip(0, 0, 0, 3, 1, 0);
        town.trouble(0, 3, 0, 0, 0, 0);
        town.trouble(0, 3, 1, 0, 0, 0);
        Check.due("house 3 at pair 1, a joint at pair 3", town.spare(0, 0, 1), 5);
        Check.due("house 3 still at pair 0", town.spare(0, 1, 1), 6);
        Check.due("the joint still at pair 2", town.spare(0, 2, 1), 9);
        Check.due("both as the text tells", town.spare(0, 3, 1), 10);
    }

    // Promises 12 to 17 are questions.
    private static void theQuestionsChangeNothing() {
        Edges.unchanged("heard", Towns::furnished, t -> t.heard(0, ALL, true, 0, 0, 0, 1, 1), 0);
        Edges.unchanged("metres", Towns::furnished, t -> t.metres(0, ALL, true, 0, 0, 0), 60);
        Edges.unchanged("fed", Towns::furnished, t -> t.fed(0, ALL, true, 1), 6);
        Edges.unchanged("served", Towns::furnished, t -> t.served(0, ALL, true), 16);
        Edges.unchanged("neighbours", Towns::furnished, t -> t.neighbours(0, ALL, true, 1), 8);
        Edges.unchanged("spare", Towns::furnished, t -> t.spare(0, ALL, 1), 16);
    }
}
