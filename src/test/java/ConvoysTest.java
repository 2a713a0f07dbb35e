/** Promises 10 to 12 and 14 to 16: join, part, refusal, convoy, waiting and priority. */
public final class ConvoysTest {
    private static final Check CHECK = new Check();

    public static void main(String[] args) {
        join();
        joinRefused();
        part();
        partRefused();
        refusalStays();
        convoyWrong();
        waiting();
        waitingTies();
        priority();
        CHECK.finish();
    }

    private static LockMaster withShips(String ships) {
        LockMaster canal = new LockMaster();
        canal.addReach(9, 90, 0, 0, 0);
        canal.addReach(9, 90, 5, 4, 0);
        canal.addReach(9, 90, 5, 4, 0);
        Check.type(canal, ships);
        canal.arrive();
        return canal;
    }

    private static String convoy(LockMaster canal, int ship) {
        StringBuilder text = new StringBuilder();
        for (int i = 0; i < canal.ship(ship, 8); i++) {
            text.append(canal.convoy(ship, i)).append(' ');
        }
        int end = canal.ship(ship, 8);
        CHECK.noElement("behind the end", () -> canal.convoy(ship, end));
        return text.toString();
    }

    private static String order(LockMaster canal, int lock) {
        StringBuilder text = new StringBuilder();
        for (int i = 0; i < canal.lock(lock, 7); i++) {
            text.append(canal.waiting(lock, i)).append(' ');
        }
        return text.toString();
    }

    private static void join() {
        LockMaster canal = withShips("d1t1,d2t1,d3t1,d4t1,d5t1,u1t1,u2t1");
        CHECK.same("3 behind 1", canal.join(3, 1), 2);
        CHECK.same("the convoy", convoy(canal, 3), "1 3 ");
        CHECK.same("4 behind 0", canal.join(4, 0), 2);
        CHECK.same("the convoy of 3 behind that of 4", canal.join(3, 4), 4);
        for (int s : new int[] {0, 1, 3, 4}) {
            CHECK.same("the whole convoy", convoy(canal, s), "0 4 1 3 ");
            CHECK.same("its first ship", canal.ship(s, 7), 0);
            CHECK.same("its ships", canal.ship(s, 8), 4);
        }
        CHECK.same("a convoy behind one ship", canal.join(0, 2), 5);
        CHECK.same("the convoy", convoy(canal, 4), "2 0 4 1 3 ");
        CHECK.same("its first ship is not the lowest", canal.ship(4, 7), 2);
        CHECK.same("upwards", canal.join(6, 5), 2);
        CHECK.same("the convoy of 5", convoy(canal, 5), "5 6 ");
        canal.pass(1);
        CHECK.same("the row went as a convoy", convoy(canal, 2), "2 0 ");
        CHECK.same("the others stay as a convoy", convoy(canal, 3), "4 1 3 ");
        CHECK.same("where", canal.ship(0, 5) + " " + canal.ship(4, 5), "1 0");
    }

    private static void joinRefused() {
        LockMaster canal = withShips("d1t1,d1t1,u1t1,u1t1,d1t1");
        canal.join(1, 0);
        for (int[] pair : new int[][] {{-1, 0}, {0, -1}, {5, 0}, {0, 5}, {9, 9}, {-1, -1},
            {Integer.MIN_VALUE, Integer.MAX_VALUE}}) {
            CHECK.refused("no such ship", canal, () -> canal.join(pair[0], pair[1]), 1);
        }
        CHECK.refused("the same ship", canal, () -> canal.join(2, 2), 2);
        CHECK.refused("the same convoy", canal, () -> canal.join(0, 1), 2);
        CHECK.refused("another lock and direction", canal, () -> canal.join(0, 2), 3);
        canal.pass(1);
        CHECK.same("0 and 1 wait at lock 1", canal.ship(1, 5) + " " + canal.ship(3, 5), "1 1");
        CHECK.refused("another direction at the same lock", canal, () -> canal.join(1, 3), 3);
        CHECK.refused("another lock in the same direction", canal, () -> canal.join(4, 0), 3);
        canal.pass(1);
        CHECK.same("both have left", canal.ship(0, 5) + " " + canal.ship(1, 5), "-1 -1");
        CHECK.refused("two that have left", canal, () -> canal.join(0, 1), 3);
        CHECK.refused("one that has left", canal, () -> canal.join(0, 3), 3);
        CHECK.refused("another one that has left", canal, () -> canal.join(3, 0), 3);
        CHECK.refused("the same that has left", canal, () -> canal.join(1, 1), 2);
        CHECK.same("three changes were made", canal.undo(), 6);
    }

    private static void part() {
        LockMaster canal = withShips("d1t1,d1t1,d1t1,d1t1,d1t1");
        for (int s = 1; s < 5; s++) {
            canal.join(s, 0);
        }
        CHECK.same("out of the middle", canal.part(2), 4);
        CHECK.same("the others in their order", convoy(canal, 4), "0 1 3 4 ");
        CHECK.same("alone", convoy(canal, 2), "2 ");
        CHECK.same("the first one", canal.part(0), 3);
        CHECK.same("the others", convoy(canal, 4), "1 3 4 ");
        CHECK.same("their first ship", canal.ship(4, 7), 1);
        CHECK.same("alone", convoy(canal, 0), "0 ");
        CHECK.same("the last one", canal.part(4), 2);
        CHECK.same("the others", convoy(canal, 1), "1 3 ");
        CHECK.same("of two", canal.part(3), 1);
        CHECK.same("alone", convoy(canal, 1), "1 ");
        CHECK.same("convoys", canal.lock(0, 7), 5);
        CHECK.same("joined again", canal.join(0, 2), 2);
        CHECK.same("in the new order", convoy(canal, 0), "2 0 ");
    }

    private static void partRefused() {
        LockMaster canal = withShips("d1t1,d1t1,d9t1");
        CHECK.refused("no such ship", canal, () -> canal.part(3), 1);
        CHECK.refused("alone", canal, () -> canal.part(0), 6);
        CHECK.refused("no such ship", canal, () -> canal.part(-1), 1);
        canal.join(1, 0);
        canal.pass(2);
        CHECK.refused("of a convoy that has left", canal, () -> canal.part(1), 6);
        CHECK.same("a ship that has left is a convoy", convoy(canal, 0) + convoy(canal, 1), "0 1 ");
        CHECK.refused("the first of a convoy that has left", canal, () -> canal.part(0), 6);
    }

    private static void refusalStays() {
        LockMaster canal = withShips("d1t1,d1t1");
        CHECK.noElement("none was refused", canal::refusal);
        CHECK.refused("alone", canal, () -> canal.part(0), 6);
        canal.join(0, 1);
        CHECK.same("a success leaves it", canal.refusal(), 6);
        CHECK.badArgument("another exception", () -> canal.addShip(0, 0, 0, true));
        CHECK.same("leaves it too", canal.refusal(), 6);
        CHECK.refused("the latest", canal, () -> canal.join(0, 0), 2);
        canal.undo();
        CHECK.same("undo leaves it", canal.refusal(), 2);
        canal.save();
        CHECK.refused("behind save", canal, () -> canal.join(7, 0), 1);
        canal.restore();
        CHECK.same("restore leaves it", canal.refusal(), 1);
    }

    private static void convoyWrong() {
        LockMaster canal = withShips("d1t1,d1t1");
        CHECK.badIndex("ship -1", () -> canal.convoy(-1, 0));
        CHECK.badIndex("ship 2, ahead of the index", () -> canal.convoy(2, 5));
        CHECK.noElement("index -1", () -> canal.convoy(0, -1));
        CHECK.noElement("index 1", () -> canal.convoy(0, 1));
        CHECK.noElement("index far away", () -> canal.convoy(0, Integer.MAX_VALUE));
    }

    private static void waiting() {
        LockMaster canal = withShips("d9t1r1,d9t1r3,d9t1,d9t1r3,u9t1r2");
        CHECK.same("by rank, then by number", order(canal, 0), "1 3 0 2 ");
        CHECK.same("at the other lock", order(canal, 1), "4 ");
        canal.join(3, 2);
        CHECK.same("the greatest rank of a convoy counts", order(canal, 0), "1 2 0 ");
        CHECK.noElement("index 3", () -> canal.waiting(0, 3));
        CHECK.noElement("index -1", () -> canal.waiting(0, -1));
        CHECK.badIndex("lock -1", () -> canal.waiting(-1, 0));
        CHECK.badIndex("lock 2, ahead of the index", () -> canal.waiting(2, -1));
        canal.set(0, 1);
        canal.pass(10);
        Check.type(canal, "d9t1r3");
        canal.arrive();
        CHECK.same("14 of 0 against 12 of 5", order(canal, 0), "1 2 0 5 ");
        canal.set(0, 6);
        CHECK.same("12 of 5 against 5 of 0", order(canal, 0), "1 2 5 0 ");
    }

    private static void waitingTies() {
        LockMaster canal = withShips("u9t1,d9t1,d9t1");
        canal.join(1, 2);
        CHECK.same("by the first ship, not by the lowest", order(canal, 0), "2 ");
        canal.part(1);
        CHECK.same("both", order(canal, 0), "1 2 ");
        LockMaster both = new LockMaster();
        both.addReach(9, 90, 0, 0, 0);
        both.addReach(9, 90, 5, 4, 0);
        Check.type(both, "u9t1,d9t1,u9t1r1,d9t1r1");
        both.arrive();
        CHECK.same("in both directions", order(both, 0), "2 3 0 1 ");
    }

    private static void priority() {
        LockMaster canal = withShips("d9t1r1,d9t1r3,d1t1");
        CHECK.same("4 times the rank", canal.priority(0) + " " + canal.priority(1), "4 12");
        canal.pass(4);
        CHECK.same("no bonus yet", canal.priority(0), 4);
        canal.pass(1);
        CHECK.same("a bonus of 1", canal.priority(0), 5);
        canal.set(0, 2);
        CHECK.same("5 by 2, rounded down", canal.priority(0), 6);
        CHECK.same("a later ship", canal.addShip(9, 1, 2, false), 3);
        CHECK.same("has no bonus", canal.priority(3), 8);
        canal.join(0, 3);
        CHECK.same("the first ship waits for the convoy", canal.priority(0), 8);
        canal.join(1, 3);
        CHECK.same("the greatest rank", canal.priority(0), 12);
        canal.part(3);
        CHECK.same("ships that are joined keep their ticks", canal.priority(1), 14);
        CHECK.badState("it has left", () -> canal.priority(2));
        CHECK.badIndex("ship -1", () -> canal.priority(-1));
        CHECK.badIndex("ship 4", () -> canal.priority(4));
    }
}
