/** Promises 1 to 5: a new object, addReach, set, reach and lock. */
public final class CanalTest {
    private static final Check CHECK = new Check();

    public static void main(String[] args) {
        newObject();
        addReach();
        addReachWrong();
        set();
        reach();
        lock();
        CHECK.finish();
    }

    private static void newObject() {
        LockMaster canal = new LockMaster();
        CHECK.same("tick", canal.tick(), 0);
        CHECK.same("faultPosition", canal.faultPosition(), -1);
        for (int what = 0; what <= 10; what++) {
            CHECK.same("account " + what, canal.account(what), 0);
        }
        CHECK.badIndex("reach 0", () -> canal.reach(0, 0));
        CHECK.badIndex("lock 0", () -> canal.lock(0, 0));
        CHECK.badIndex("ship 0", () -> canal.ship(0, 0));
        CHECK.badState("undo", canal::undo);
        CHECK.noElement("refusal", canal::refusal);
        LockMaster other = new LockMaster();
        other.addReach(1, 10, 0, 0, 0);
        CHECK.same("another object changes nothing", canal.account(0), 0);
    }

    private static void addReach() {
        LockMaster canal = new LockMaster();
        CHECK.same("the first, without a lock", canal.addReach(1, 10, -7, 1000, 99), 0);
        CHECK.badIndex("no lock yet", () -> canal.lock(0, 0));
        CHECK.same("all least", canal.addReach(1, 10, 1, 4, 0), 1);
        CHECK.same("all greatest", canal.addReach(9, 99, 9, 60, 3), 2);
        CHECK.same("3", canal.addReach(2, 20, 5, 12, 2), 3);
        CHECK.same("4", canal.addReach(3, 30, 6, 16, 1), 4);
        CHECK.same("reaches", canal.account(0), 5);
        CHECK.same("water of 0", canal.reach(0, 2), 10);
        CHECK.same("water of 2", canal.reach(2, 2), 891);
        CHECK.same("water of 4", canal.reach(4, 2), 90);
        CHECK.same("all water", canal.account(4), 10 + 10 + 891 + 40 + 90);
        CHECK.same("the water with which they were made", canal.account(10), 10 + 10 + 891 + 40 + 90);
        CHECK.same("length of lock 3", canal.lock(3, 0), 6);
        CHECK.badState("a sixth reach", () -> canal.addReach(1, 10, 1, 4, 0));
        CHECK.badArgument("the range comes first", () -> canal.addReach(1, 10, 0, 4, 0));
        CHECK.same("unchanged", canal.account(10), 10 + 10 + 891 + 40 + 90);
    }

    private static void addReachWrong() {
        LockMaster canal = new LockMaster();
        int[][] wrongFirst = {{0, 10}, {10, 10}, {1, 9}, {1, 100}, {-1, 10}, {Integer.MIN_VALUE, 10},
            {1, Integer.MAX_VALUE}};
        for (int[] w : wrongFirst) {
            CHECK.badArgument("area " + w[0] + " level " + w[1], () -> canal.addReach(w[0], w[1], 1, 4, 0));
        }
        canal.addReach(2, 20, 0, 0, 0);
        int[][] wrong = {{0, 4, 0}, {10, 4, 0}, {1, 3, 0}, {1, 61, 0}, {1, 4, -1}, {1, 4, 4}};
        for (int[] w : wrong) {
            CHECK.badArgument("lock " + w[0] + " " + w[1] + " " + w[2],
                    () -> canal.addReach(1, 10, w[0], w[1], w[2]));
        }
        CHECK.badArgument("area with a good lock", () -> canal.addReach(0, 10, 1, 4, 0));
        CHECK.same("one reach", canal.account(0), 1);
        CHECK.same("its water", canal.account(10), 40);
        canal.addReach(1, 10, 1, 4, 0);
        canal.addShip(1, 1, 0, true);
        CHECK.badState("a ship was made", () -> canal.addReach(1, 10, 1, 4, 0));
        CHECK.badArgument("the range comes first", () -> canal.addReach(1, 10, 1, 4, 4));
        canal.pass(1);
        CHECK.same("it has left", canal.account(2), 1);
        CHECK.badState("it was made all the same", () -> canal.addReach(1, 10, 1, 4, 0));
        canal.undo();
        canal.undo();
        CHECK.same("no ship again", canal.addReach(1, 10, 1, 4, 0), 2);
    }

    private static void set() {
        LockMaster canal = new LockMaster();
        int[] least = {1, 0, 0};
        int[] most = {20, 50, 99};
        int[] atFirst = {5, 20, 0};
        for (int i = 0; i < 3; i++) {
            int setting = i;
            CHECK.same("at first " + i, canal.set(i, most[i]), atFirst[i]);
            CHECK.same("the greatest " + i, canal.set(i, least[i]), most[i]);
            CHECK.badArgument("above " + i, () -> canal.set(setting, most[setting] + 1));
            CHECK.badArgument("below " + i, () -> canal.set(setting, least[setting] - 1));
            CHECK.same("the least " + i, canal.set(i, most[i]), least[i]);
        }
        CHECK.badIndex("setting -1", () -> canal.set(-1, 5));
        CHECK.badIndex("setting 3, ahead of its value", () -> canal.set(3, -1));
        CHECK.badIndex("setting far away", () -> canal.set(Integer.MIN_VALUE, 5));
        CHECK.same("not mixed up", canal.set(0, 3) + " " + canal.set(1, 4) + " " + canal.set(2, 5), "20 50 99");
    }

    private static void reach() {
        LockMaster canal = new LockMaster();
        canal.addReach(3, 12, 0, 0, 0);
        canal.addReach(2, 15, 9, 10, 0);
        canal.addShip(1, 1, 0, false);
        canal.addShip(1, 1, 0, false);
        canal.addShip(9, 50, 0, true);
        CHECK.same("numbers of 0", numbers(canal, 0), "3 12 36 12 0 2 ");
        CHECK.same("numbers of 1", numbers(canal, 1), "2 15 30 15 0 1 ");
        canal.pass(1);
        CHECK.same("26 of 36 is the level 8, rounded down, and dryness 1", numbers(canal, 0), "3 12 26 8 1 1 ");
        CHECK.same("all above the normal level went", numbers(canal, 1), "2 15 30 15 0 1 ");
        CHECK.badIndex("reach -1", () -> canal.reach(-1, 0));
        CHECK.badIndex("reach 2, ahead of what", () -> canal.reach(2, 9));
        CHECK.badArgument("what -1", () -> canal.reach(0, -1));
        CHECK.badArgument("what 6", () -> canal.reach(0, 6));
        for (int[] edge : new int[][] {{2, 0}, {3, 1}, {6, 1}, {7, 2}}) {
            LockMaster dry = new LockMaster();
            dry.addReach(1, 20, 0, 0, 0);
            dry.addReach(1, 20, 1, 13 + edge[0], 0);
            dry.addShip(1, 1, 3, false);
            dry.pass(1);
            dry.set(2, 13);
            dry.pass(1);
            CHECK.same("level below the normal one", 20 - dry.reach(0, 3), edge[0]);
            CHECK.same("its dryness", dry.reach(0, 4), edge[1]);
        }
    }

    private static String numbers(LockMaster canal, int reach) {
        StringBuilder text = new StringBuilder();
        for (int what = 0; what <= 5; what++) {
            text.append(canal.reach(reach, what)).append(' ');
        }
        return text.toString();
    }

    private static void lock() {
        LockMaster canal = new LockMaster();
        canal.addReach(9, 50, 0, 0, 0);
        canal.addReach(9, 50, 5, 11, 2);
        canal.addReach(9, 50, 6, 60, 3);
        CHECK.same("at first", lockNumbers(canal, 0), "5 11 2 2 0 0 0 0 0 0 ");
        canal.addShip(2, 1, 0, false);
        canal.addShip(2, 1, 0, false);
        canal.addShip(1, 1, 0, true);
        canal.join(1, 0);
        CHECK.same("a convoy and no other", canal.lock(0, 7) + " " + canal.lock(1, 7), "1 1");
        canal.pass(1);
        CHECK.same("emptied into its basins", lockNumbers(canal, 0), "5 11 2 2 0 2 4 1 2 1 ");
        CHECK.same("filled for the one that goes up", lockNumbers(canal, 1), "6 60 3 15 1 0 60 1 1 1 ");
        CHECK.badIndex("lock -1", () -> canal.lock(-1, 0));
        CHECK.badIndex("lock 2, ahead of what", () -> canal.lock(2, 10));
        CHECK.badArgument("what -1", () -> canal.lock(1, -1));
        CHECK.badArgument("what 10", () -> canal.lock(1, 10));
    }

    private static String lockNumbers(LockMaster canal, int lock) {
        StringBuilder text = new StringBuilder();
        for (int what = 0; what <= 9; what++) {
            text.append(canal.lock(lock, what)).append(' ');
        }
        return text.toString();
    }
}
