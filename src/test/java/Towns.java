/** The towns at which edges are tried. */
final class Towns {
    /**
     * Boxes 0 to 5, of which 5 lies alone; cables of 6, 4, 2 and 2 pairs, of 9, 20, 7 and 8 metres. Houses 0 and 9 hang
     * at pairs that nothing feeds, 6, 7 and 8 hang nowhere; pair 4 of cable 0 and pair 3 of cable 1 are spare.
     */
    static final String TEXT = "b 6;c 0 1 6 9;c 1 2 4 20;c 1 3 2 7;c 3 4 2 8"
        + ";j 0 0 1 0;j 0 1 1 1;j 0 2 2 0;j 0 5 1 3;j 2 0 3 1"
        + ";h 1 0 1;h 1 1 2;h 3 1 3;h 0 3 4;h 2 1 0;h 3 0 9";
    static final String SECOND = "b 3;c 0 1 2 5;c 1 2 2 3;j 0 0 1 1;h 1 1 0;h 0 1 1";
    static final String ON_THE_TAPE = "b 3;c 0 2 1 5";

    /** Seven cables of six pairs; the longest row of houses. */
    static final String LARGEST = "b 8;c 0 1 6 99;c 1 2 6 99;c 2 3 6 99;c 0 4 6 99;c 4 5 6 99;c 0 6 6 99;c 0 7 6 99"
        + ";j 0 0 1 0;j 1 0 2 0;j 3 5 4 5;j 0 1 1 1"
        + ";h 2 0 0;h 6 0 1;h 6 1 2;h 6 2 3;h 6 3 4;h 6 4 5;h 4 5 6;h 5 0 7;h 5 1 8;h 5 5 9";

    private Towns() {
    }

    static BuriedPairs fresh() {
        return new BuriedPairs();
    }

    /** Two plans with something of everything, and bytes of a third on the tape. */
    static BuriedPairs furnished() {
        BuriedPairs town = new BuriedPairs();
        Check.plan(town, TEXT);
        town.slip(0, 1, 1, 2, 5, 0);
        town.slip(0, 0, 0, 3, 1, 2);
        town.trouble(0, 0, 0, 0, 1, 0);
        town.trouble(0, 1, 1, 1, 0, 6);
        town.trouble(0, 2, 0, 1, 2, 4);
        town.trouble(0, 3, 1, 0, 0, 0);
        town.test(0, 0, 0, 0, 0, 1, 1);
        town.test(0, 1, 1, 1, 1, 0, 0);
        town.test(0, 1, 0, 1, 0, 0, 0);
        town.read(0, 0, false, 1);
        town.read(0, 2, true, 18);
        town.want(0, 1, 1);
        town.want(0, 2, 0);
        Check.plan(town, SECOND);
        town.trouble(1, 1, 0, 0, 0, 2);
        town.test(1, 1, 0, 0, 0, 0, 0);
        town.read(1, 0, false, 33);
        Check.feed(town, ON_THE_TAPE);
        return town;
    }

    /** A plan whose readings no world fits. */
    static BuriedPairs unfitting() {
        BuriedPairs town = furnished();
        town.read(0, 1, false, 3);
        return town;
    }

    /**
     * Slip 0 puts house 1 where house 0 hung, slip 1 hangs house 2: by fault 0 the first was never done, by fault 1
     * the second.
     */
    static BuriedPairs movedBySlips() {
        BuriedPairs town = new BuriedPairs();
        Check.plan(town, "b 2;c 0 1 2 5;h 0 0 0");
        town.slip(0, 1, 0, 0, 1, 0);
        town.slip(0, 1, 0, 1, 2, 0);
        town.trouble(0, 3, 0, 0, 0, 0);
        town.trouble(0, 3, 1, 0, 0, 0);
        return town;
    }

    /** Seven cables of 99 metres in a row, and a house at its end. */
    static BuriedPairs longest() {
        BuriedPairs town = new BuriedPairs();
        Check.plan(town, "b 8;c 0 1 2 99;c 1 2 2 99;c 2 3 2 99;c 3 4 2 99;c 4 5 2 99;c 5 6 2 99;c 6 7 2 99"
            + ";j 0 0 1 0;j 1 0 2 0;j 2 0 3 0;j 3 0 4 0;j 4 0 5 0;j 5 0 6 0;h 6 0 0");
        return town;
    }

    static BuriedPairs sixSlips() {
        BuriedPairs town = new BuriedPairs();
        Check.plan(town, TEXT);
        for (int slip = 0; slip < 6; slip++) {
            town.slip(0, 1, 0, slip, 9 - slip, 0);
        }
        return town;
    }

    /** Plan 0 has all that it can have, there are six plans, and the tape is one with a fault at its end. */
    static BuriedPairs full() {
        BuriedPairs town = new BuriedPairs();
        Check.plan(town, LARGEST);
        for (int slip = 0; slip < 6; slip++) {
            town.slip(0, slip % 2, 0, 2 + slip % 4, slip % 2 == 0 ? 1 : 9, slip);
        }
        for (int fault = 0; fault < 10; fault++) {
            town.trouble(0, fault % 4, fault % 4 == 3 ? 5 : fault % 3, fault % 6, (fault + 1) % 6, 99);
        }
        for (int test = 0; test < 12; test++) {
            town.test(0, test % 2, test % 7, test % 6, test / 2 % 2, 6 - test % 7, test % 2);
        }
        for (int reading = 0; reading < 24; reading++) {
            int test = reading % 12;
            boolean wet = reading < 12;
            town.read(0, test, wet, town.tells(0, test, 1, wet));
        }
        for (int plan = 1; plan < 6; plan++) {
            Check.plan(town, plan == 5 ? SECOND : "b 2");
        }
        Check.feed(town, ON_THE_TAPE);
        return town;
    }
}
