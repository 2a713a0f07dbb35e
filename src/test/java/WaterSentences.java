/** The sentences under "Water", "Locks" and "Spills", and those on reaches under "In doubt". */
final class WaterSentences {
    private WaterSentences() {
    }

    static void tell(Sentences sentences) {
        sentences.plain("Terms", "Water.", "Locks.", "Spills.", "In doubt.",
                "A canal consists of reaches from the highest one, 0, to the lowest one; "
                + "between the reaches k and k + 1 there is the lock k.");
        sentences.of("Terms", "All water is counted in whole units.", WaterSentences::wholeUnits);
        sentences.of("Terms", "At most 5 reaches are made, so that there are at most 4 locks.",
                WaterSentences::mostReaches);
        sentences.of("Terms", "A reach has an area from 1 to 9, a normal level from 10 to 99, and water;",
                WaterSentences::reachRanges);
        sentences.of("Terms", "it has area times normal level at first.", WaterSentences::waterAtFirst);
        sentences.of("Terms", "Its level is its water divided by its area, rounded down.", WaterSentences::level);
        sentences.of("Terms", "A lock has a length from 1 to 9, a chamber that takes from 4 to 60 units, and from 0 to 3 "
                + "saving basins.", WaterSentences::lockRanges);
        sentences.of("Terms", "Its chamber is full or empty, at first empty.", WaterSentences::chamberAtFirst);
        sentences.of("Terms", "A basin takes a quarter of the chamber, rounded down, and is empty or full, at first "
                + "empty.", WaterSentences::quarter);
        sentences.of("Terms", "When a chamber is emptied, each empty basin, in ascending order, is filled by its quarter "
                + "as long as the chamber has so much; what is left goes into the reach below.",
                WaterSentences::emptied);
        sentences.of("Terms", "When a chamber is filled, each full basin, in descending order, is emptied into it; what "
                + "lacks is taken from the reach above.", WaterSentences::filled);
        sentences.of("Terms", "If the reach above has less than that, the chamber cannot be filled.",
                WaterSentences::cannotBeFilled);
        sentences.of("Terms", "In ascending order, if the level of a reach is above its normal level, all water above "
                + "area times normal level goes into the next reach; from the lowest reach, it leaves the canal.",
                WaterSentences::spills);
        sentences.of("Terms", "Nothing spills outside of ticks.", WaterSentences::noSpillOutsideOfTicks);
        sentences.of("Terms", "Reaches can be made only as long as there are no ships.",
                WaterSentences::noReachBehindAShip);
        sentences.of("Terms", "A reach that is made comes below the others, with the lock above it; the first one is made "
                + "without a lock.", WaterSentences::newReachIsTheLowest);
    }

    private static void wholeUnits(Check check) {
        LockMaster canal = Canals.narrow(1, 7, 1);
        canal.addShip(1, 1, 0, false);
        canal.pass(1);
        check.same("a quarter of 7 is 1 unit", canal.lock(0, 6), 1);
        check.same("the other 6 went down and spilled", canal.account(7), 6);
        check.same("the rest", canal.account(4), 33);
    }

    private static void mostReaches(Check check) {
        LockMaster canal = new LockMaster();
        for (int k = 0; k < 5; k++) {
            check.same("reach " + k, canal.addReach(1, 10, k + 1, 4, 0), k);
        }
        check.badState("a sixth reach", () -> canal.addReach(1, 10, 1, 4, 0));
        check.same("reaches", canal.account(0), 5);
        check.same("the last reach", canal.reach(4, 2), 10);
        check.badIndex("a sixth reach", () -> canal.reach(5, 2));
        check.same("the last lock", canal.lock(3, 0), 5);
        check.badIndex("a fifth lock", () -> canal.lock(4, 0));
    }

    private static void reachRanges(Check check) {
        LockMaster canal = new LockMaster();
        for (int area : new int[] {Integer.MIN_VALUE, -1, 0, 10, 11, Integer.MAX_VALUE}) {
            check.badArgument("area " + area, () -> canal.addReach(area, 50, 1, 4, 0));
        }
        for (int level : new int[] {Integer.MIN_VALUE, -10, 0, 9, 100, 101, Integer.MAX_VALUE}) {
            check.badArgument("level " + level, () -> canal.addReach(5, level, 1, 4, 0));
        }
        check.same("no reach", canal.account(0), 0);
        check.same("least area", canal.addReach(1, 50, 1, 4, 0), 0);
        check.same("greatest area", canal.addReach(9, 50, 1, 4, 0), 1);
        check.same("least level", canal.addReach(5, 10, 1, 4, 0), 2);
        check.same("greatest level", canal.addReach(5, 99, 1, 4, 0), 3);
        check.same("areas", canal.reach(0, 0) + " " + canal.reach(1, 0), "1 9");
        check.same("levels", canal.reach(2, 1) + " " + canal.reach(3, 1), "10 99");
    }

    private static void waterAtFirst(Check check) {
        LockMaster canal = new LockMaster();
        canal.addReach(1, 10, 1, 4, 0);
        canal.addReach(9, 99, 1, 4, 0);
        canal.addReach(7, 13, 1, 4, 0);
        check.same("the least", canal.reach(0, 2), 10);
        check.same("the most", canal.reach(1, 2), 891);
        check.same("between", canal.reach(2, 2), 91);
        check.same("levels", canal.reach(0, 3) + " " + canal.reach(1, 3) + " " + canal.reach(2, 3), "10 99 13");
    }

    private static void level(Check check) {
        int[][] unitsAndLevel = {{8, 9}, {9, 9}, {10, 8}, {17, 8}, {18, 8}, {19, 7}, {59, 3}, {60, 3}};
        for (int[] due : unitsAndLevel) {
            LockMaster canal = new LockMaster();
            canal.addReach(9, 10, 0, 0, 0);
            canal.addReach(9, 10, 1, due[0], 0);
            canal.addShip(1, 1, 0, false);
            canal.pass(1);
            check.same("water", canal.reach(0, 2), 90 - due[0]);
            check.same("level of " + (90 - due[0]) + " by 9", canal.reach(0, 3), due[1]);
        }
        LockMaster lessThanTheArea = new LockMaster();
        lessThanTheArea.addReach(9, 10, 0, 0, 0);
        lessThanTheArea.addReach(9, 10, 1, 41, 0);
        Canals.with(lessThanTheArea, "d1t1r3,d1t1r3").pass(2);
        check.same("8 by 9", lessThanTheArea.reach(0, 2) + " " + lessThanTheArea.reach(0, 3), "8 0");
        LockMaster dry = Canals.levels(10, 10, 1, 10, 0);
        dry.addShip(1, 1, 0, false);
        dry.pass(1);
        check.same("no water", dry.reach(0, 2) + " " + dry.reach(0, 3), "0 0");
    }

    private static void lockRanges(Check check) {
        LockMaster canal = new LockMaster();
        canal.addReach(1, 10, 0, 0, 0);
        for (int length : new int[] {Integer.MIN_VALUE, -1, 0, 10, 11, Integer.MAX_VALUE}) {
            check.badArgument("length " + length, () -> canal.addReach(1, 10, length, 30, 1));
        }
        for (int chamber : new int[] {Integer.MIN_VALUE, -4, 0, 3, 61, Integer.MAX_VALUE}) {
            check.badArgument("chamber " + chamber, () -> canal.addReach(1, 10, 5, chamber, 1));
        }
        for (int basins : new int[] {Integer.MIN_VALUE, -1, 4, Integer.MAX_VALUE}) {
            check.badArgument("basins " + basins, () -> canal.addReach(1, 10, 5, 30, basins));
        }
        check.same("one reach", canal.account(0), 1);
        check.badIndex("no lock", () -> canal.lock(0, 0));
        check.same("least length", canal.addReach(1, 10, 1, 30, 1), 1);
        check.same("greatest length, least chamber", canal.addReach(1, 10, 9, 4, 1), 2);
        check.same("greatest chamber, no basins", canal.addReach(1, 10, 5, 60, 0), 3);
        check.same("most basins", canal.addReach(1, 10, 5, 30, 3), 4);
        check.same("lengths", canal.lock(0, 0) + " " + canal.lock(1, 0), "1 9");
        check.same("chambers", canal.lock(1, 1) + " " + canal.lock(2, 1), "4 60");
        check.same("basins", canal.lock(2, 2) + " " + canal.lock(3, 2), "0 3");
    }

    private static void chamberAtFirst(Check check) {
        LockMaster canal = Canals.narrow(9, 16, 3);
        check.same("empty at first", canal.lock(0, 4) + " " + canal.lock(0, 6), "0 0");
        canal.addShip(9, 1, 0, true);
        canal.pass(1);
        check.same("full behind a locking up", canal.lock(0, 4) + " " + canal.lock(0, 6), "1 16");
        canal.addShip(9, 1, 3, false);
        canal.pass(1);
        check.same("empty behind one down", canal.lock(0, 4) + " " + canal.lock(0, 6), "0 12");
    }

    private static void quarter(Check check) {
        int[][] chamberAndQuarter = {{4, 1}, {7, 1}, {8, 2}, {11, 2}, {12, 3}, {59, 14}, {60, 15}};
        for (int[] due : chamberAndQuarter) {
            LockMaster canal = Canals.levels(60, 60, 1, due[0], 3);
            check.same("a basin of " + due[0], canal.lock(0, 3), due[1]);
            check.same("empty at first", canal.lock(0, 5) + " " + canal.lock(0, 6), "0 0");
            canal.addShip(1, 1, 0, false);
            canal.pass(1);
            check.same("three full ones of " + due[0], canal.lock(0, 5) + " " + canal.lock(0, 6), "3 " + 3 * due[1]);
        }
        check.same("also without basins", Canals.narrow(1, 11, 0).lock(0, 3), 2);
    }

    /** The reach below has the area 9, so that 8 units more are no higher level and do not spill. */
    private static void emptied(Check check) {
        int[][] chamberAndBelow = {{8, 8, 6, 4, 2}, {7, 7, 6, 5, 4}, {4, 4, 3, 2, 1}};
        for (int[] due : chamberAndBelow) {
            for (int basins = 0; basins <= 3; basins++) {
                LockMaster canal = new LockMaster();
                canal.addReach(9, 20, 0, 0, 0);
                canal.addReach(9, 20, 1, due[0], basins);
                canal.addShip(1, 1, 0, false);
                canal.pass(1);
                String what = basins + " basins of " + due[0];
                check.same("full of " + what, canal.lock(0, 5), basins);
                check.same("below of " + what, canal.reach(1, 2) - 180, due[1 + basins]);
                check.same("in " + what, canal.lock(0, 6), due[0] - due[1 + basins]);
            }
        }
    }

    private static void filled(Check check) {
        int[][] basinsAndTaken = {{0, 8}, {1, 6}, {2, 4}, {3, 2}};
        for (int[] due : basinsAndTaken) {
            LockMaster canal = new LockMaster();
            canal.addReach(9, 20, 0, 0, 0);
            canal.addReach(9, 20, 1, 8, due[0]);
            Canals.with(canal, "d1t1,d1t1,u1t1").pass(1);
            check.same("8 lacked while the basins were empty", canal.reach(0, 2), 172);
            check.same("nothing came from them", canal.account(9), 0);
            canal.pass(1);
            check.same("taken with " + due[0] + " basins", 172 - canal.reach(0, 2), due[1]);
            check.same("the rest came from them", canal.account(9), 8 - due[1]);
            canal.pass(1);
            check.same("full, with empty basins", canal.lock(0, 4) + " " + canal.lock(0, 5), "1 0");
        }
    }

    private static void cannotBeFilled(Check check) {
        for (int chamber = 19; chamber <= 21; chamber++) {
            LockMaster canal = Canals.narrow(1, chamber, 3);
            canal.addShip(1, 1, 3, chamber == 20);
            check.same(chamber + " of 20", canal.pass(1), chamber <= 20 ? 1 : 0);
            check.same("what is left of 20", canal.reach(0, 2), chamber <= 20 ? 20 - chamber : 20);
        }
        for (int level = 19; level <= 20; level++) {
            LockMaster canal = Canals.levels(level, 20, 1, 16, 3);
            Canals.with(canal, "d1t1r3,d1t1r3").pass(1);
            check.same("left above", canal.reach(0, 2), level - 16);
            check.same("4 lack, as 12 are in the basins", canal.pass(1), level == 20 ? 1 : 0);
            check.same("the reach above", canal.reach(0, 2), level == 20 ? 0 : 3);
        }
    }

    private static void spills(Check check) {
        LockMaster canal = new LockMaster();
        canal.addReach(3, 10, 0, 0, 0);
        canal.addReach(4, 20, 1, 4, 0);
        canal.addReach(2, 30, 1, 4, 0);
        canal.set(2, 2);
        canal.pass(1);
        check.same("32 of 30 is the normal level", Canals.water(canal), "32 (0 0) 80 (0 0) 60");
        canal.set(2, 1);
        canal.pass(1);
        check.same("33 is above it: all 3 go, and 83 is the normal level", Canals.water(canal),
                "30 (0 0) 83 (0 0) 60");
        check.same("nothing left the canal", canal.account(7), 0);
        canal.set(2, 3);
        canal.pass(1);
        check.same("3 more go through all reaches in one tick", Canals.water(canal), "30 (0 0) 80 (0 0) 60");
        check.same("6 left the canal from the lowest one", canal.account(7), 6);
        canal.set(2, 0);
        canal.pass(40);
        check.same("at the normal level nothing spills", Canals.water(canal), "30 (0 0) 80 (0 0) 60");
        canal.set(2, 99);
        canal.pass(1);
        check.same("all above the normal level", Canals.water(canal), "30 (0 0) 80 (0 0) 60");
        check.same("left the canal", canal.account(7), 105);
    }

    private static void noSpillOutsideOfTicks(Check check) {
        LockMaster canal = new LockMaster();
        canal.addReach(3, 10, 0, 0, 0);
        canal.addReach(3, 10, 1, 4, 0);
        canal.set(2, 2);
        canal.pass(1);
        canal.set(2, 99);
        Canals.with(canal, "d1t1,d1t1,u1t1");
        canal.join(1, 0);
        canal.part(1);
        canal.hindrance(0);
        canal.untilLeft(0, 40);
        canal.save();
        canal.restore();
        check.same("what is above the normal level stays", Canals.water(canal), "32 (0 0) 30");
        check.same("nothing left, nothing came", canal.account(7) + " " + canal.account(6), "0 2");
    }

    private static void noReachBehindAShip(Check check) {
        LockMaster canal = Canals.narrow(1, 4, 0);
        check.same("no ships", canal.addReach(1, 10, 1, 4, 0), 2);
        canal.addShip(1, 1, 0, false);
        check.badState("a ship waits", () -> canal.addReach(1, 10, 1, 4, 0));
        canal.pass(2);
        check.same("it has left", canal.account(2), 1);
        check.badState("a ship has left", () -> canal.addReach(1, 10, 1, 4, 0));
        canal.undo();
        canal.undo();
        check.same("no ships again", canal.addReach(1, 10, 1, 4, 0), 3);
        Check.type(canal, "d1t1");
        canal.arrive();
        check.badState("a ship has arrived", () -> canal.addReach(1, 10, 1, 4, 0));
    }

    private static void newReachIsTheLowest(Check check) {
        LockMaster canal = new LockMaster();
        check.same("the first", canal.addReach(1, 11, 1, 4, 1), 0);
        check.badIndex("without a lock", () -> canal.lock(0, 0));
        check.same("the second", canal.addReach(2, 12, 2, 5, 2), 1);
        check.same("with the lock above it", canal.lock(0, 0) + " " + canal.lock(0, 1) + " " + canal.lock(0, 2), "2 5 2");
        check.badIndex("and none below", () -> canal.lock(1, 0));
        canal.addReach(3, 13, 3, 6, 3);
        check.same("the lock above the third", canal.lock(1, 0) + " " + canal.lock(1, 1) + " " + canal.lock(1, 2),
                "3 6 3");
        check.same("the lock between the others stays", canal.lock(0, 0), 2);
        check.same("below the others", canal.reach(0, 1) + " " + canal.reach(1, 1) + " " + canal.reach(2, 1), "11 12 13");
        canal.addShip(1, 1, 0, true);
        check.same("the lowest one", canal.ship(0, 4), 2);
    }
}
