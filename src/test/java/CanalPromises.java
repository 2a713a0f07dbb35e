/** The sentences of the promises 1 to 5: a new object, addReach, set, reach and lock. */
final class CanalPromises {
    private CanalPromises() {
    }

    static void tell(Sentences sentences) {
        sentences.of("1", "Creates a canal without reaches, locks and ships; it is tick 0, and all water accounts are 0.",
                CanalPromises::newObject);

        sentences.plain("2", "- `area`: the area - `level`: the normal level - `length`: the length of the lock "
                + "- `chamber`: what its chamber takes - `basins`: the number of its basins");
        sentences.of("2", "Makes a reach, and the lock above it if it is not the first one; the numbers of the lock do not "
                + "matter for the first one.", CanalPromises::firstReachHasNoLock);
        sentences.of("2", "Returns the number of the reach.", CanalPromises::numberOfTheReach);
        sentences.of("2", "Throws `IllegalArgumentException` if a number that matters is out of range",
                CanalPromises::reachOutOfRange);
        sentences.of("2", "Throws `IllegalStateException` if 5 reaches were made, or a ship was made",
                CanalPromises::noMoreReaches);

        sentences.plain("3", "Sets a setting.", "- `value`: the value");
        sentences.of("3", "- `setting`: 0 for the patience, 1 for the grace, 2 for the inflow", CanalPromises::settings);
        sentences.of("3", "Returns the value before.", CanalPromises::valueBefore);
        sentences.of("3", "Throws `IndexOutOfBoundsException` if there is no such setting", CanalPromises::noSuchSetting);
        sentences.of("3", "Throws `IllegalArgumentException` if the value is out of range",
                CanalPromises::valueOutOfRange);

        sentences.plain("4", "Returns a number of a reach. - `reach`: the reach", "Returns the number.");
        sentences.of("4", "- `what`: 0 for its area, 1 for its normal level, 2 for its water, 3 for its level, 4 for its "
                + "dryness, 5 for the number of ships in it", CanalPromises::numbersOfReach);
        sentences.of("4", "Throws `IndexOutOfBoundsException` if there is no such reach", CanalPromises::noSuchReach);
        sentences.of("4", "Throws `IllegalArgumentException` if what is not from 0 to 5", CanalPromises::whatOfReach);

        sentences.plain("5", "Returns a number of a lock. - `lock`: the lock", "Returns the number.");
        sentences.of("5", "- `what`: 0 for its length, 1 for what its chamber takes, 2 for the number of its basins, 3 for "
                + "what a basin takes, 4 for 1 if the chamber is full and 0 if it is empty, 5 for the number of full "
                + "basins, 6 for the water in it and its basins, 7 for the number of convoys that wait there, 8 for the "
                + "ships that it has locked, 9 for the lockings that it has made", CanalPromises::numbersOfLock);
        sentences.of("5", "Throws `IndexOutOfBoundsException` if there is no such lock", CanalPromises::noSuchLock);
        sentences.of("5", "Throws `IllegalArgumentException` if what is not from 0 to 9", CanalPromises::whatOfLock);
    }

    private static void newObject(Check check) {
        LockMaster canal = new LockMaster();
        check.badIndex("no reach", () -> canal.reach(0, 0));
        check.badIndex("no lock", () -> canal.lock(0, 0));
        check.badIndex("no ship", () -> canal.ship(0, 0));
        check.same("tick 0", canal.tick(), 0);
        for (int what = 0; what <= 10; what++) {
            check.same("account " + what, canal.account(what), 0);
        }
        check.badState("no change", canal::undo);
        check.same("no snapshot", Check.answer(canal::restore), "!IllegalStateException");
        check.same("no fault", canal.faultPosition(), -1);
        check.noElement("no refusal", canal::refusal);
        check.same("no locking", Check.answer(canal::meanLocked), "!ArithmeticException");
        canal.addReach(9, 99, 0, 0, 0);
        check.same("each object has a canal of its own", new LockMaster().account(0), 0);
    }

    private static void firstReachHasNoLock(Check check) {
        int[] any = {Integer.MIN_VALUE, -1, 0, 100, Integer.MAX_VALUE};
        for (int number : any) {
            LockMaster canal = new LockMaster();
            check.same("lock numbers of " + number, canal.addReach(1, 10, number, number, number), 0);
            check.badIndex("no lock", () -> canal.lock(0, 0));
            check.badArgument("length " + number, () -> canal.addReach(1, 10, number, 4, 0));
            check.same("the second one", canal.addReach(1, 10, 1, 4, 0), 1);
            check.same("its lock", canal.lock(0, 1), 4);
            canal.undo();
            canal.undo();
            check.same("the first one again", canal.addReach(1, 10, number, number, number), 0);
        }
    }

    private static void numberOfTheReach(Check check) {
        LockMaster canal = new LockMaster();
        for (int k = 0; k < 5; k++) {
            check.same("reach", canal.addReach(1, 10, 1, 4, 0), k);
        }
        canal.undo();
        check.same("the last one again", canal.addReach(1, 10, 1, 4, 0), 4);
    }

    private static void reachOutOfRange(Check check) {
        for (int reaches = 0; reaches <= 4; reaches++) {
            LockMaster canal = new LockMaster();
            for (int k = 0; k < reaches; k++) {
                canal.addReach(5, 50, 5, 30, 1);
            }
            int[][] wrong = {{0, 50, 5, 30, 1}, {10, 50, 5, 30, 1}, {5, 9, 5, 30, 1}, {5, 100, 5, 30, 1},
                {5, 50, 0, 30, 1}, {5, 50, 10, 30, 1}, {5, 50, 5, 3, 1}, {5, 50, 5, 61, 1}, {5, 50, 5, 30, -1},
                {5, 50, 5, 30, 4}};
            for (int i = 0; i < (reaches == 0 ? 4 : 10); i++) {
                int[] w = wrong[i];
                check.badArgument("wrong " + i, () -> canal.addReach(w[0], w[1], w[2], w[3], w[4]));
                check.same("reaches", canal.account(0) + " " + canal.account(10), reaches + " " + 250 * reaches);
            }
            check.same("all in the range", canal.addReach(5, 50, 5, 30, 1), reaches);
        }
    }

    private static void noMoreReaches(Check check) {
        LockMaster canal = new LockMaster();
        for (int k = 0; k < 5; k++) {
            canal.addReach(1, 10, 1, 4, 0);
        }
        check.badState("5 reaches", () -> canal.addReach(1, 10, 1, 4, 0));
        check.same("all as it was", canal.account(0) + " " + canal.account(4) + " " + canal.account(10), "5 50 50");
        LockMaster ship = Canals.with(Canals.narrow(1, 4, 0), "u1t1");
        check.badState("a ship", () -> ship.addReach(1, 10, 1, 4, 0));
        ship.pass(1);
        check.badState("a ship that has left", () -> ship.addReach(1, 10, 1, 4, 0));
        check.same("all as it was", ship.account(0) + " " + ship.account(10), "2 40");
    }

    private static void settings(Check check) {
        LockMaster canal = Canals.dried(9, 9);
        Canals.with(canal, "d1t1");
        canal.pass(6);
        check.same("patience 5, grace 20", canal.priority(1) + " " + canal.hindrance(1), "1 3");
        canal.set(0, 2);
        check.same("patience 2", canal.priority(1) + " " + canal.hindrance(1), "3 3");
        canal.set(1, 6);
        check.same("grace 6", canal.priority(1) + " " + canal.hindrance(1), "3 0");
        canal.set(2, 4);
        canal.pass(1);
        check.same("inflow 4", canal.account(6), 4);
    }

    private static void valueBefore(Check check) {
        LockMaster canal = new LockMaster();
        check.same("at first", canal.set(0, 1) + " " + canal.set(1, 2) + " " + canal.set(2, 3), "5 20 0");
        check.same("then", canal.set(0, 20) + " " + canal.set(1, 50) + " " + canal.set(2, 99), "1 2 3");
        check.badArgument("a wrong one", () -> canal.set(2, 100));
        check.same("the greatest", canal.set(0, 5) + " " + canal.set(1, 0) + " " + canal.set(2, 0), "20 50 99");
        check.same("the same value", canal.set(0, 5) + " " + canal.set(0, 5), "5 5");
        canal.undo();
        canal.undo();
        canal.undo();
        check.same("undone", canal.set(2, 1), 99);
    }

    private static void noSuchSetting(Check check) {
        LockMaster canal = Canals.narrow(1, 4, 0);
        for (int setting : new int[] {Integer.MIN_VALUE, -1, 3, 4, Integer.MAX_VALUE}) {
            check.badIndex("setting " + setting, () -> canal.set(setting, 5));
        }
        check.same("all as it was", canal.set(0, 1) + " " + canal.set(1, 1) + " " + canal.set(2, 1), "5 20 0");
        check.same("5 changes", canal.undo(), 4);
    }

    private static void valueOutOfRange(Check check) {
        LockMaster canal = Canals.narrow(1, 4, 0);
        int[][] settingLeastAndMost = {{0, 1, 20}, {1, 0, 50}, {2, 0, 99}};
        for (int[] range : settingLeastAndMost) {
            int before = canal.set(range[0], range[1]);
            check.same("the most", canal.set(range[0], range[2]), range[1]);
            for (int value : new int[] {Integer.MIN_VALUE, -1, range[1] - 1, range[2] + 1, Integer.MAX_VALUE}) {
                check.badArgument(value + " for " + range[0], () -> canal.set(range[0], value));
            }
            check.same("all as it was", canal.set(range[0], before), range[2]);
        }
    }

    private static void numbersOfReach(Check check) {
        LockMaster canal = new LockMaster();
        canal.addReach(3, 12, 0, 0, 0);
        canal.addReach(2, 15, 9, 10, 0);
        canal.addReach(2, 16, 9, 4, 0);
        Canals.with(canal, "d9t1,d9t9,u9t1");
        canal.join(1, 0);
        check.same("reach 0", numbers(canal, 0), "3 12 36 12 0 2 ");
        check.same("reach 1", numbers(canal, 1), "2 15 30 15 0 0 ");
        check.same("reach 2", numbers(canal, 2), "2 16 32 16 0 1 ");
        canal.pass(1);
        check.same("26 by 3", numbers(canal, 0), "3 12 26 8 1 1 ");
        check.same("10 came, 4 went, 6 spilled; two ships came", numbers(canal, 1), "2 15 30 15 0 2 ");
        check.same("6 came and left", numbers(canal, 2), "2 16 32 16 0 0 ");
    }

    private static String numbers(LockMaster canal, int reach) {
        StringBuilder text = new StringBuilder();
        for (int what = 0; what <= 5; what++) {
            text.append(canal.reach(reach, what)).append(' ');
        }
        return text.toString();
    }

    private static void noSuchReach(Check check) {
        for (int reaches = 0; reaches <= 5; reaches++) {
            LockMaster canal = new LockMaster();
            for (int k = 0; k < reaches; k++) {
                canal.addReach(1, 10, 1, 4, 0);
                check.same("the last one", canal.reach(k, 0), 1);
            }
            for (int reach : new int[] {Integer.MIN_VALUE, -1, reaches, reaches + 1, Integer.MAX_VALUE}) {
                check.badIndex("reach " + reach + " of " + reaches, () -> canal.reach(reach, 0));
            }
        }
        LockMaster undone = Canals.narrow(1, 4, 0);
        undone.undo();
        check.badIndex("one that is undone", () -> undone.reach(1, 0));
    }

    private static void whatOfReach(Check check) {
        LockMaster canal = Canals.narrow(1, 4, 0);
        for (int what : new int[] {Integer.MIN_VALUE, -1, 6, 7, Integer.MAX_VALUE}) {
            check.badArgument("what " + what, () -> canal.reach(1, what));
        }
        check.same("0 and 5", canal.reach(1, 0) + " " + canal.reach(1, 5), "1 0");
    }

    private static void numbersOfLock(Check check) {
        LockMaster canal = new LockMaster();
        canal.addReach(9, 50, 0, 0, 0);
        canal.addReach(9, 50, 5, 11, 2);
        canal.addReach(9, 50, 6, 60, 3);
        check.same("lock 0 at first", lockNumbers(canal, 0), "5 11 2 2 0 0 0 0 0 0 ");
        check.same("lock 1 at first", lockNumbers(canal, 1), "6 60 3 15 0 0 0 0 0 0 ");
        Canals.with(canal, "d2t1,d2t1,d9t1,d9t1,u1t1,u9t1");
        canal.join(1, 0);
        canal.join(3, 2);
        check.same("convoys, not ships", canal.lock(0, 7) + " " + canal.lock(1, 7), "2 2");
        canal.pass(1);
        check.same("lock 0: emptied into its basins", lockNumbers(canal, 0), "5 11 2 2 0 2 4 2 2 1 ");
        check.same("lock 1: full", lockNumbers(canal, 1), "6 60 3 15 1 0 60 2 1 1 ");
        canal.pass(1);
        check.same("lock 0: filled for the one that goes up", lockNumbers(canal, 0), "5 11 2 2 1 0 11 1 3 2 ");
        check.same("lock 1: emptied for the convoy", lockNumbers(canal, 1), "6 60 3 15 0 3 45 1 3 2 ");
    }

    private static String lockNumbers(LockMaster canal, int lock) {
        StringBuilder text = new StringBuilder();
        for (int what = 0; what <= 9; what++) {
            text.append(canal.lock(lock, what)).append(' ');
        }
        return text.toString();
    }

    private static void noSuchLock(Check check) {
        for (int reaches = 0; reaches <= 5; reaches++) {
            LockMaster canal = new LockMaster();
            for (int k = 0; k < reaches; k++) {
                canal.addReach(1, 10, 1, 4, 0);
            }
            int locks = reaches < 1 ? 0 : reaches - 1;
            if (locks > 0) {
                check.same("the last one", canal.lock(locks - 1, 0), 1);
            }
            for (int lock : new int[] {Integer.MIN_VALUE, -1, locks, locks + 1, Integer.MAX_VALUE}) {
                check.badIndex("lock " + lock + " of " + locks, () -> canal.lock(lock, 0));
            }
        }
        LockMaster undone = Canals.narrow(1, 4, 0);
        undone.undo();
        check.badIndex("one that is undone", () -> undone.lock(0, 0));
    }

    private static void whatOfLock(Check check) {
        LockMaster canal = Canals.narrow(1, 4, 0);
        for (int what : new int[] {Integer.MIN_VALUE, -1, 10, 11, Integer.MAX_VALUE}) {
            check.badArgument("what " + what, () -> canal.lock(0, what));
        }
        check.same("0 and 9", canal.lock(0, 0) + " " + canal.lock(0, 9), "1 0");
    }
}
