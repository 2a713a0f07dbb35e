/** The sentences of the promises 18 to 22: pass, tick, untilLeft, account and meanLocked. */
final class TimePromises {
    private TimePromises() {
    }

    static void tell(Sentences sentences) {
        sentences.plain("18", "Lets some ticks go by.");
        sentences.of("18", "- `ticks`: the number of ticks, 1 to 40", TimePromises::ticks);
        sentences.of("18", "Returns the number of ships that left in them.", TimePromises::shipsThatLeft);
        sentences.of("18", "Throws `IllegalArgumentException` if ticks is out of range or the tick number would be greater "
                + "than 500", TimePromises::wrongTicks);
        sentences.of("18", "Throws `IllegalStateException` if there are fewer than 2 reaches", TimePromises::fewReaches);

        sentences.plain("19", "Returns the tick number. Returns the tick number.");
        sentences.of("19", "Returns the tick number.", TimePromises::tickNumber);

        sentences.plain("20", "- `ship`: the ship", "Returns the number.");
        sentences.of("20", "Returns after how many ticks a ship will have left, if nothing else is done.",
                TimePromises::untilLeft);
        sentences.of("20", "- `ticks`: the greatest number of ticks that are tried, 1 to 40", TimePromises::greatestTicks);
        sentences.of("20", "Throws `IndexOutOfBoundsException` if there is no such ship", TimePromises::noSuchShip);
        sentences.of("20", "Throws `IllegalArgumentException` if ticks is out of range", TimePromises::wrongTries);
        sentences.of("20", "Throws `IllegalStateException` if it has left", TimePromises::hasLeft);
        sentences.of("20", "Throws `NoSuchElementException` if it does not leave in these ticks, or up to tick number 500",
                TimePromises::doesNotLeave);

        sentences.plain("21", "Returns an account.", "Returns the number.");
        sentences.of("21", "- `what`: 0 for the reaches, 1 for the ships that were made, 2 for those that have left, 3 for "
                + "the convoys that wait, 4 for the water in all reaches, 5 for the water in all chambers and basins, 6 "
                + "for the water that came with the inflow, 7 for the water that left the canal, 8 for the lockings of all "
                + "locks, 9 for the water that basins gave to chambers, 10 for the water with which reaches were made",
                TimePromises::accounts);
        sentences.of("21", "4 for the water in all reaches, 5 for the water in all chambers and basins, 6 for the water that "
                + "came with the inflow, 7 for the water that left the canal,", TimePromises::noWaterIsMadeOrLost);
        sentences.of("21", "Throws `IllegalArgumentException` if what is not from 0 to 10", TimePromises::whatOfAccount);

        sentences.plain("22", "Returns the mean number of ships in a locking.");
        sentences.of("22", "Returns the ships that all locks have locked divided by their lockings, both as doubles.",
                TimePromises::meanLocked);
        sentences.of("22", "Throws `ArithmeticException` if there was no locking", TimePromises::noLocking);
    }

    private static void ticks(Check check) {
        LockMaster canal = Canals.plenty(2, 9);
        check.badArgument("0", () -> canal.pass(0));
        check.badArgument("41", () -> canal.pass(41));
        check.same("1", canal.pass(1) + " " + canal.tick(), "0 1");
        check.same("40", canal.pass(40) + " " + canal.tick(), "0 41");
        check.same("39", canal.pass(39) + " " + canal.tick(), "0 80");
    }

    private static void shipsThatLeft(Check check) {
        LockMaster canal = Canals.plenty(3, 5);
        check.same("without ships", canal.pass(5), 0);
        Canals.with(canal, "d2t1,d3t1,d5t1,u5t1r1,d6t1");
        canal.join(1, 0);
        check.same("none in the first tick", canal.pass(1), 0);
        check.same("a convoy of two and one upwards", canal.pass(1), 3);
        check.same("one more, none twice", canal.pass(40), 1);
        check.same("none", canal.pass(40), 0);
        canal.undo();
        canal.undo();
        check.same("the same again in other ticks", canal.pass(2), 1);
        canal.undo();
        canal.undo();
        canal.undo();
        check.same("all at once", canal.pass(4), 4);
    }

    private static void wrongTicks(Check check) {
        LockMaster canal = Canals.plenty(2, 9);
        for (int tick : new int[] {0, 1, 459, 460}) {
            Canals.toTick(canal, tick);
            for (int ticks : new int[] {Integer.MIN_VALUE, -1, 0, 41, 500, Integer.MAX_VALUE}) {
                check.badArgument(ticks + " at " + tick, () -> canal.pass(ticks));
            }
            check.same("all as it was", canal.tick(), tick);
        }
        check.same("40 at 460", canal.pass(40) + " " + canal.tick(), "0 500");
        for (int left = 1; left <= 40; left += 13) {
            canal.undo();
            Canals.toTick(canal, 500 - left);
            int tooMany = left + 1;
            check.badArgument(tooMany + " to 501", () -> canal.pass(tooMany));
            check.same("to 500", canal.pass(left) + " " + canal.tick(), "0 500");
            check.badArgument("1 to 501", () -> canal.pass(1));
            canal.undo();
            canal.undo();
            Canals.toTick(canal, 460);
            canal.pass(40);
        }
    }

    private static void fewReaches(Check check) {
        LockMaster canal = new LockMaster();
        check.badState("no reach", () -> canal.pass(1));
        check.badState("no reach", () -> canal.pass(40));
        canal.addReach(1, 10, 1, 4, 0);
        canal.set(2, 9);
        check.badState("one reach", () -> canal.pass(1));
        check.same("nothing came", canal.tick() + " " + canal.account(6) + " " + canal.reach(0, 2), "0 0 10");
        canal.addReach(1, 10, 1, 4, 0);
        check.same("two reaches", canal.pass(1) + " " + canal.tick(), "0 1");
    }

    private static void tickNumber(Check check) {
        LockMaster canal = new LockMaster();
        check.same("at first", canal.tick(), 0);
        canal.addReach(1, 10, 1, 4, 0);
        canal.addReach(1, 10, 1, 4, 0);
        canal.pass(1);
        check.same("1", canal.tick(), 1);
        canal.save();
        canal.pass(40);
        check.same("41", canal.tick(), 41);
        canal.undo();
        check.same("undone", canal.tick(), 1);
        Canals.toTick(canal, 500);
        check.badArgument("no more", () -> canal.pass(1));
        check.same("500", canal.tick(), 500);
        canal.restore();
        check.same("restored", canal.tick(), 1);
    }

    private static void untilLeft(Check check) {
        LockMaster canal = Canals.with(Canals.plenty(3, 9), "d9t1r1,d9t1,u9t1,u3t1,u3t1");
        canal.join(4, 3);
        String before = Check.portrait(canal);
        int[] due = {2, 3, 3, 5, 5};
        for (int s = 0; s <= 4; s++) {
            check.same("ship " + s, canal.untilLeft(s, 40), due[s]);
        }
        check.same("nothing else is done", Check.portrait(canal), before);
        check.same("nor is it a change", canal.undo(), 4);
        canal.join(4, 3);
        for (int gone = 1; gone <= 2; gone++) {
            canal.pass(1);
            check.same("ship 1 behind " + gone, canal.untilLeft(1, 40), 3 - gone);
        }
        check.same("and it leaves", canal.pass(1) + " " + canal.ship(1, 4), "2 -1");
    }

    private static void greatestTicks(Check check) {
        LockMaster canal = Canals.plenty(3, 9);
        canal.addShip(9, 1, 0, false);
        check.badArgument("0", () -> canal.untilLeft(0, 0));
        check.noElement("1", () -> canal.untilLeft(0, 1));
        check.same("2", canal.untilLeft(0, 2), 2);
        check.same("3", canal.untilLeft(0, 3), 2);
        check.same("40", canal.untilLeft(0, 40), 2);
        check.badArgument("41", () -> canal.untilLeft(0, 41));
    }

    private static void noSuchShip(Check check) {
        LockMaster canal = Canals.plenty(2, 9);
        for (int ships = 0; ships <= 2; ships++) {
            for (int ship : new int[] {Integer.MIN_VALUE, -1, ships, 16, Integer.MAX_VALUE}) {
                check.badIndex("ship " + ship + " of " + ships, () -> canal.untilLeft(ship, 1));
            }
            canal.addShip(1, 1, 0, false);
        }
        check.same("the last one", canal.untilLeft(2, 40), 3);
    }

    private static void wrongTries(Check check) {
        LockMaster canal = Canals.plenty(2, 9);
        canal.addShip(1, 1, 0, false);
        for (int ticks : new int[] {Integer.MIN_VALUE, -1, 0, 41, 500, Integer.MAX_VALUE}) {
            check.badArgument("ticks " + ticks, () -> canal.untilLeft(0, ticks));
        }
        Canals.toTick(canal, 499);
        canal.addShip(1, 1, 0, false);
        check.same("40 are in the range at tick 499", canal.untilLeft(1, 40), 1);
    }

    private static void hasLeft(Check check) {
        LockMaster canal = Canals.with(Canals.plenty(2, 9), "d9t1,u9t1");
        canal.pass(1);
        check.badState("down", () -> canal.untilLeft(0, 1));
        check.same("not yet", canal.untilLeft(1, 1), 1);
        canal.pass(1);
        check.badState("up", () -> canal.untilLeft(1, 40));
    }

    private static void doesNotLeave(Check check) {
        LockMaster never = Canals.plenty(2, 5);
        never.addShip(6, 1, 3, false);
        check.noElement("never", () -> never.untilLeft(0, 40));
        LockMaster slow = Canals.levels(10, 10, 5, 40, 0);
        slow.addShip(5, 1, 3, false);
        check.noElement("no water comes", () -> slow.untilLeft(0, 40));
        LockMaster late = Canals.dried(5, 41);
        late.addShip(5, 1, 3, false);
        late.set(2, 1);
        check.same("2 units lack", late.untilLeft(1, 40), 3);
        check.same("just in these ticks", late.untilLeft(1, 3), 3);
        check.noElement("not in these ticks", () -> late.untilLeft(1, 2));
        for (int left = 0; left <= 3; left++) {
            LockMaster end = Canals.toTick(Canals.plenty(3, 9), 500 - left);
            end.addShip(9, 1, 0, false);
            check.same("with " + left + " ticks up to 500", Check.answer(() -> end.untilLeft(0, 40)),
                    left < 2 ? "!NoSuchElementException" : "2");
        }
    }

    private static String accounts(LockMaster canal) {
        StringBuilder text = new StringBuilder();
        for (int what = 0; what <= 10; what++) {
            text.append(canal.account(what)).append(' ');
        }
        return text.toString();
    }

    private static void accounts(Check check) {
        LockMaster canal = new LockMaster();
        check.same("empty", accounts(canal), "0 0 0 0 0 0 0 0 0 0 0 ");
        canal.addReach(9, 50, 0, 0, 0);
        check.same("one reach", accounts(canal), "1 0 0 0 450 0 0 0 0 0 450 ");
        canal.addReach(9, 50, 9, 12, 2);
        canal.addReach(9, 50, 9, 20, 0);
        check.same("three reaches", accounts(canal), "3 0 0 0 1350 0 0 0 0 0 1350 ");
        Canals.with(canal, "d9t1,d3t1,d3t1,u9t1");
        canal.join(2, 1);
        check.same("four ships, three convoys", accounts(canal), "3 4 0 3 1350 0 0 0 0 0 1350 ");
        canal.set(2, 5);
        canal.pass(1);
        check.same("12 from reach 0, 6 into basins, 6 on; 20 into lock 1; 5 came", accounts(canal),
                "3 4 0 3 1329 26 5 0 2 0 1350 ");
        canal.pass(1);
        check.same("6 from basins, 6 from reach 0; 20 from lock 1 spill", accounts(canal),
                "3 4 1 2 1334 6 10 20 4 6 1350 ");
        canal.undo();
        canal.undo();
        check.same("undone", accounts(canal), "3 4 0 3 1350 0 0 0 0 0 1350 ");
    }

    private static void noWaterIsMadeOrLost(Check check) {
        for (int basins = 0; basins <= 3; basins++) {
            LockMaster canal = new LockMaster();
            canal.addReach(3, 40, 0, 0, 0);
            canal.addReach(2, 20, 5, 23, basins);
            canal.addReach(4, 30, 7, 9, 3 - basins);
            canal.addReach(1, 15, 4, 6, basins);
            canal.set(2, 7);
            Canals.with(canal, "d4t1r3,u4t1r3,d2t1,u2t1r1,d3t1r2,u1t1,d4t1,u4t1");
            for (int i = 0; i < 25; i++) {
                canal.pass(i % 3 + 1);
                check.same("made and come is there or left, behind " + canal.tick(), canal.account(4) + canal.account(5)
                        + canal.account(7), canal.account(10) + canal.account(6));
                check.same("the inflow", canal.account(6), 7 * canal.tick());
            }
            check.same("ships have left", canal.account(2) > 3, true);
            int inLocks = canal.lock(0, 6) + canal.lock(1, 6) + canal.lock(2, 6);
            check.same("in all locks", canal.account(5), inLocks);
            int inReaches = canal.reach(0, 2) + canal.reach(1, 2) + canal.reach(2, 2) + canal.reach(3, 2);
            check.same("in all reaches", canal.account(4), inReaches);
            check.same("lockings", canal.account(8), canal.lock(0, 9) + canal.lock(1, 9) + canal.lock(2, 9));
        }
    }

    private static void whatOfAccount(Check check) {
        LockMaster canal = Canals.narrow(1, 4, 0);
        for (int what : new int[] {Integer.MIN_VALUE, -1, 11, 12, Integer.MAX_VALUE}) {
            check.badArgument("what " + what, () -> canal.account(what));
        }
        check.same("0 and 10", canal.account(0) + " " + canal.account(10), "2 40");
    }

    private static void meanLocked(Check check) {
        LockMaster canal = Canals.with(Canals.plenty(3, 3), "d1t1,d1t1,d1t1,d1t1");
        for (int s = 1; s < 4; s++) {
            canal.join(s, 0);
        }
        canal.pass(1);
        check.same("three in one", canal.meanLocked(), 3.0);
        canal.pass(1);
        check.same("3 + 3 + 1 in three", canal.meanLocked(), 7.0 / 3.0);
        canal.pass(1);
        check.same("8 in four, of all locks", canal.meanLocked(), 2.0);
        canal.undo();
        check.same("undone", canal.meanLocked(), 7.0 / 3.0);
        LockMaster ones = Canals.with(Canals.plenty(2, 3), "d3t1,u3t1");
        ones.pass(40);
        check.same("one in each", ones.meanLocked(), 1.0);
    }

    private static void noLocking(Check check) {
        LockMaster canal = new LockMaster();
        check.same("a new object", Check.answer(canal::meanLocked), "!ArithmeticException");
        canal.addReach(9, 90, 5, 4, 0);
        canal.addReach(9, 90, 5, 4, 0);
        canal.addShip(6, 1, 0, false);
        canal.pass(40);
        check.same("the only ship is too long", Check.answer(canal::meanLocked), "!ArithmeticException");
        canal.addShip(5, 1, 0, false);
        canal.pass(1);
        check.same("one locking", canal.meanLocked(), 1.0);
        canal.undo();
        check.same("undone", Check.answer(canal::meanLocked), "!ArithmeticException");
        LockMaster stuck = Canals.with(Canals.levels(10, 10, 5, 40, 0), "u5t1r3");
        stuck.pass(3);
        check.same("the only chamber is never filled", Check.answer(stuck::meanLocked), "!ArithmeticException");
    }
}
