/** The sentences under "Draught" and "Drought", and what "In doubt, too" says of them. */
final class DroughtSentences {
    private DroughtSentences() {
    }

    static void tell(Sentences sentences) {
        sentences.plain("Terms", "Draught.", "Drought.");
        sentences.of("Terms", "A row cannot go if the level of a reach, of the one in which it waits or of the one into "
                + "which it would come, is less than the draught of one of its ships.", DroughtSentences::draught);
        sentences.of("Terms", "The dryness of a reach is 0 if its level is at least its normal level minus 2, 1 if it is "
                + "less but at least its normal level minus 6, and 2 otherwise.", DroughtSentences::dryness);
        sentences.of("Terms", "If the reach above a lock has the dryness 1, only rows go through it whose sizes are "
                + "together at least half of the length of the lock, or whose first ship has waited at least the grace;",
                DroughtSentences::drynessOne);
        sentences.of("Terms", "if it has the dryness 2, only rows of ships of rank 3.", DroughtSentences::drynessTwo);
        sentences.of("Terms", "If the reach above a lock has the dryness 1,", DroughtSentences::onlyTheReachAbove);
        sentences.of("Terms", "Grace is a setting from 0 to 50, 20 at first.", DroughtSentences::grace);
        sentences.of("Terms", "Twice the sizes of a row must be at least the length at dryness 1.",
                DroughtSentences::twiceTheSizes);
        sentences.of("Terms", "The rules look at the levels when it is the turn of the lock, ahead of making its chamber "
                + "ready, and at the row that would go alone; a shorter one does not go in its place.",
                DroughtSentences::whatTheRulesLookAt);
    }

    /** The row of a ship that begins a convoy goes in a tick, if nothing hinders it, and does not otherwise. */
    private static void due(Check check, String what, LockMaster canal, int ship, int hindrance) {
        check.same(what, canal.hindrance(ship), hindrance);
        int reach = canal.ship(ship, 4);
        canal.pass(1);
        check.same("in a tick: " + what, canal.ship(ship, 4) == reach, hindrance != 0);
        canal.undo();
    }

    private static void draught(Check check) {
        int[][] aboveAndBelow = {{20, 20}, {20, 30}, {30, 20}};
        for (int[] levels : aboveAndBelow) {
            for (int up = 0; up <= 1; up++) {
                for (int draught = 19; draught <= 21; draught++) {
                    LockMaster canal = Canals.levels(levels[0], levels[1], 5, 4, 0);
                    canal.addShip(3, draught, 3, up == 1);
                    due(check, draught + " of " + levels[0] + " and " + levels[1], canal, 0, draught <= 20 ? 0 : 2);
                }
            }
        }
        for (int draught = 17; draught <= 18; draught++) {
            LockMaster canal = Canals.dried(5, 9);
            canal.addShip(5, draught, 3, false);
            due(check, draught + " at the level of 71 by 4", canal, 1, draught == 17 ? 0 : 2);
        }
        LockMaster second = Canals.with(Canals.narrow(5, 4, 0), "d1t1r3,d4t21r3");
        second.join(1, 0);
        due(check, "the last one of the row", second, 0, 2);
        LockMaster behind = Canals.with(Canals.narrow(5, 4, 0), "d2t1r3,d4t21r3");
        behind.join(1, 0);
        due(check, "one behind the row", behind, 0, 0);
    }

    private static void dryness(Check check) {
        int[][] unitsLevelAndDryness = {{4, 19, 0}, {8, 18, 0}, {9, 17, 1}, {12, 17, 1}, {13, 16, 1}, {24, 14, 1},
            {25, 13, 2}, {28, 13, 2}, {60, 5, 2}};
        for (int[] due : unitsLevelAndDryness) {
            LockMaster canal = Canals.dried(1, due[0]);
            check.same("the level without " + due[0], canal.reach(0, 3), due[1]);
            check.same("the dryness at " + due[1], canal.reach(0, 4), due[2]);
        }
        LockMaster wet = Canals.narrow(1, 4, 0);
        check.same("at the normal level", wet.reach(0, 4), 0);
        LockMaster above = new LockMaster();
        above.addReach(9, 10, 0, 0, 0);
        above.addReach(9, 10, 1, 4, 0);
        above.set(2, 8);
        above.pass(1);
        check.same("with more water", above.reach(0, 2) + " " + above.reach(0, 4), "98 0");
    }

    private static void drynessOne(Check check) {
        for (int units : new int[] {8, 9, 24}) {
            for (int up = 0; up <= 1; up++) {
                for (int size = 2; size <= 4; size++) {
                    LockMaster canal = Canals.dried(6, units);
                    canal.addShip(size, 1, 3, up == 1);
                    due(check, size + " of 6 behind " + units, canal, 1, units == 8 || size >= 3 ? 0 : 3);
                }
            }
        }
        LockMaster together = Canals.with(Canals.dried(6, 9), "d1t1,d2t1,d6t1");
        due(check, "1 of 6", together, 1, 3);
        together.join(3, 1);
        due(check, "1 of 6 with one behind the row", together, 1, 3);
        together.part(3);
        together.join(2, 1);
        due(check, "1 and 2 of 6", together, 1, 0);
        LockMaster waiting = Canals.dried(9, 9);
        waiting.set(1, 4);
        Canals.with(waiting, "d1t1,u1t1");
        for (int ticks = 0; ticks <= 4; ticks++) {
            due(check, "down behind " + ticks, waiting, 1, ticks < 4 ? 3 : 0);
            check.same("up behind " + ticks, waiting.hindrance(2), ticks < 4 ? 3 : 0);
            if (ticks == 3) {
                waiting.addShip(1, 1, 0, false);
                waiting.join(1, 3);
                due(check, "only the first one counts, and has not waited", waiting, 3, 3);
                waiting.part(3);
            }
            if (ticks < 4) {
                waiting.pass(1);
            }
        }
        waiting.join(3, 1);
        due(check, "only the first one counts, and has waited", waiting, 1, 0);
    }

    private static void drynessTwo(Check check) {
        for (int units : new int[] {24, 25, 40}) {
            for (int rank = 0; rank <= 3; rank++) {
                for (int up = 0; up <= 1; up++) {
                    LockMaster canal = Canals.dried(6, units);
                    canal.set(1, 0);
                    canal.addShip(6, 1, rank, up == 1);
                    due(check, "rank " + rank + " behind " + units, canal, 1, units == 24 || rank == 3 ? 0 : 3);
                }
            }
        }
        LockMaster canal = Canals.with(Canals.dried(6, 25), "d1t1r3,d1t1r2,d5t1r3,d5t1");
        due(check, "one of 6 of rank 3 that has not waited", canal, 1, 0);
        canal.join(2, 1);
        due(check, "the second one is of rank 2", canal, 1, 3);
        canal.part(1);
        canal.join(1, 2);
        due(check, "the first one is of rank 2", canal, 2, 3);
        canal.part(1);
        canal.join(3, 1);
        due(check, "two of rank 3", canal, 1, 0);
        canal.join(4, 1);
        due(check, "one of rank 0 behind the row", canal, 1, 0);
    }

    private static void onlyTheReachAbove(Check check) {
        LockMaster canal = new LockMaster();
        canal.addReach(1, 99, 0, 0, 0);
        canal.addReach(4, 20, 9, 4, 0);
        canal.addReach(4, 20, 9, 25, 0);
        Canals.with(canal, "u9t1,u1t1").pass(1);
        check.same("dry below lock 0 and above lock 1", canal.reach(0, 4) + " " + canal.reach(1, 4), "0 2");
        canal.addShip(1, 1, 0, false);
        check.same("down into the dry reach", canal.hindrance(2), 0);
        check.same("up out of the dry reach", canal.hindrance(0), 0);
        check.same("up into the dry reach", canal.hindrance(1), 3);
    }

    private static void grace(Check check) {
        LockMaster canal = Canals.dried(9, 9);
        canal.addShip(1, 1, 0, false);
        Canals.toTick(canal, 20);
        check.same("behind 19 ticks", canal.ship(1, 6) + " " + canal.hindrance(1), "19 3");
        canal.pass(1);
        check.same("behind 20 ticks", canal.ship(1, 6) + " " + canal.hindrance(1), "20 0");
        check.same("20 at first", canal.set(1, 50), 20);
        check.same("50 is the most", canal.hindrance(1), 3);
        Canals.toTick(canal, 50);
        check.same("behind 49 ticks", canal.ship(1, 6) + " " + canal.hindrance(1), "49 3");
        canal.pass(1);
        check.same("behind 50 ticks", canal.ship(1, 6) + " " + canal.hindrance(1), "50 0");
        check.badArgument("51", () -> canal.set(1, 51));
        check.badArgument("-1", () -> canal.set(1, -1));
        canal.addShip(1, 1, 0, false);
        check.same("a new ship", canal.hindrance(2), 3);
        check.same("0 is the least", canal.set(1, 0), 50);
        check.same("it has waited 0 ticks", canal.hindrance(2), 0);
    }

    private static void twiceTheSizes(Check check) {
        for (int length = 1; length <= 9; length++) {
            for (int size = 1; size <= length; size++) {
                LockMaster canal = Canals.dried(length, 9);
                canal.addShip(size, 1, 3, false);
                check.same(size + " of " + length, canal.hindrance(1), size + size >= length ? 0 : 3);
            }
        }
        LockMaster odd = Canals.dried(7, 9);
        odd.addShip(3, 1, 3, false);
        due(check, "3 of 7", odd, 1, 3);
        odd.addShip(4, 1, 3, false);
        due(check, "4 of 7", odd, 2, 0);
    }

    private static void whatTheRulesLookAt(Check check) {
        LockMaster ahead = Canals.levels(50, 50, 5, 30, 0);
        ahead.addShip(1, 50, 0, false);
        due(check, "draught and dryness ahead of filling", ahead, 0, 0);
        LockMaster turn = Canals.levels(50, 20, 5, 10, 0);
        turn.addReach(1, 30, 5, 10, 0);
        turn.addShip(5, 30, 0, true);
        check.same("20 at lock 1", turn.hindrance(0), 2);
        turn.pass(1);
        check.same("it stays", turn.ship(0, 4), 2);
        turn.addShip(5, 1, 0, false);
        turn.pass(1);
        check.same("lock 0 gave 10 ahead of the turn of lock 1", turn.ship(0, 4) + " " + turn.ship(1, 4), "1 1");
        aheadOfEmptying(check);
        LockMaster shorter = Canals.with(Canals.narrow(5, 4, 0), "d1t20,d4t21");
        shorter.join(1, 0);
        due(check, "a shorter row does not go", shorter, 0, 2);
        LockMaster longer = Canals.with(Canals.narrow(5, 4, 0), "d1t20,d5t21");
        longer.join(1, 0);
        due(check, "nor do the others count", longer, 0, 0);
        LockMaster dry = Canals.with(Canals.dried(6, 25), "d3t1r3,d3t1r2");
        dry.join(2, 1);
        due(check, "nor does a shorter one in a drought", dry, 1, 3);
        dry.part(2);
        due(check, "alone it does", dry, 1, 0);
    }

    /** To empty lock 0 would raise the level in reach 1, where the ship 1 waits, from 20 to 30. */
    private static void aheadOfEmptying(Check check) {
        LockMaster canal = new LockMaster();
        canal.addReach(9, 50, 0, 0, 0);
        canal.addReach(1, 30, 5, 10, 0);
        canal.addReach(9, 50, 5, 10, 0);
        Canals.with(canal, "u5t1,u5t25").pass(1);
        canal.set(2, 99);
        canal.pass(1);
        canal.set(2, 0);
        canal.pass(1);
        check.same("ship 1 waits behind a full chamber", Canals.water(canal), "450 (1 0) 20 (1 0) 450");
        due(check, "the level ahead of emptying", canal, 1, 2);
        canal.pass(1);
        check.same("the chamber is not made ready", Canals.water(canal), "450 (1 0) 20 (1 0) 450");
    }
}
