/** Promises 6 to 9 and 13: addShip, append, arrive, faultPosition and ship. */
public final class ShipsTest {
    private static final Check CHECK = new Check();

    public static void main(String[] args) {
        addShip();
        append();
        arrive();
        arriveRefused();
        faultPosition();
        ship();
        CHECK.finish();
    }

    private static LockMaster twoReaches() {
        LockMaster canal = new LockMaster();
        canal.addReach(9, 90, 0, 0, 0);
        canal.addReach(9, 90, 9, 4, 0);
        return canal;
    }

    private static void addShip() {
        LockMaster canal = new LockMaster();
        CHECK.refused("no reach", canal, () -> canal.addShip(1, 1, 0, true), 5);
        canal.addReach(9, 90, 0, 0, 0);
        CHECK.refused("one reach", canal, () -> canal.addShip(1, 1, 0, true), 5);
        canal.addReach(9, 90, 9, 4, 0);
        int[][] wrong = {{0, 1, 0}, {10, 1, 0}, {1, 0, 0}, {1, 100, 0}, {1, 1, -1}, {1, 1, 4},
            {Integer.MIN_VALUE, 1, 0}, {1, Integer.MAX_VALUE, 0}};
        for (int[] w : wrong) {
            CHECK.badArgument("ship " + w[0] + " " + w[1] + " " + w[2], () -> canal.addShip(w[0], w[1], w[2], true));
        }
        CHECK.same("no ship", canal.account(1), 0);
        CHECK.same("all least", canal.addShip(1, 1, 0, true), 0);
        CHECK.same("all greatest", canal.addShip(9, 99, 3, false), 1);
        for (int i = 2; i < 16; i++) {
            CHECK.same("ship " + i, canal.addShip(1, 1, 0, i % 2 == 0), i);
        }
        CHECK.refused("a seventeenth ship", canal, () -> canal.addShip(1, 1, 0, true), 4);
        CHECK.badArgument("the range comes first", () -> canal.addShip(0, 1, 0, true));
        CHECK.same("16 ships", canal.account(1), 16);
        canal.pass(40);
        CHECK.isTrue("some have left", canal.account(2) > 0);
        CHECK.refused("16 were made, ever", canal, () -> canal.addShip(1, 1, 0, true), 4);
    }

    private static void append() {
        LockMaster canal = twoReaches();
        for (int i = 0; i < 50; i++) {
            canal.append(i == 0 ? 'd' : '\uffff');
        }
        CHECK.same("a 51st character", Check.answer(() -> canal.append('1')), "!IllegalStateException");
        CHECK.same("and again", Check.answer(() -> canal.append('1')), "!IllegalStateException");
        CHECK.badArgument("any character is taken, and is a fault", canal::arrive);
        CHECK.same("fault", canal.faultPosition(), 1);
        CHECK.same("the buffer is emptied", Check.answer(() -> canal.append('u')), "done");
        Check.type(canal, "1t1");
        CHECK.same("one arrival", canal.arrive(), 1);
        CHECK.badArgument("the buffer is emptied behind a good text too", canal::arrive);
        Check.type(canal, "d1t1,d1t1,d1t1,d1t1,d1t1,d1t1,d1t1,d1t1,d1t1,d1t10");
        CHECK.same("50 characters", canal.arrive(), 10);
        CHECK.same("the tenth draught", canal.ship(10, 1), 10);
    }

    private static void arrive() {
        LockMaster canal = twoReaches();
        Check.type(canal, "d1t1,u9t99r3,d5t10r0,u2t30,d3t4r1,d4t5r2");
        CHECK.same("six arrivals", canal.arrive(), 6);
        int[][] due = {{1, 1, 0, 0}, {9, 99, 3, 1}, {5, 10, 0, 0}, {2, 30, 0, 1}, {3, 4, 1, 0}, {4, 5, 2, 0}};
        for (int s = 0; s < due.length; s++) {
            for (int what = 0; what < 4; what++) {
                CHECK.same("ship " + s + " number " + what, canal.ship(s, what), due[s][what]);
            }
            CHECK.same("reach of " + s, canal.ship(s, 4), due[s][3]);
            CHECK.same("alone", canal.ship(s, 8), 1);
        }
        Check.type(canal, "u3t2");
        canal.arrive();
        CHECK.same("nothing of an earlier text", canal.ship(6, 0) + " " + canal.ship(6, 1), "3 2");
        canal.undo();
        CHECK.same("one change", canal.undo(), 2);
        CHECK.same("undoes all of them", canal.account(1), 0);
    }

    private static void arriveRefused() {
        LockMaster canal = new LockMaster();
        Check.type(canal, "d1t1");
        CHECK.refused("no reach", canal, canal::arrive, 5);
        CHECK.same("the text had no fault", canal.faultPosition(), -1);
        CHECK.badArgument("the buffer is emptied", canal::arrive);
        CHECK.same("and faulty at once", canal.faultPosition(), 0);
        canal.addReach(9, 90, 0, 0, 0);
        Check.type(canal, "x");
        CHECK.badArgument("a fault comes ahead of a refusal", canal::arrive);
        Check.type(canal, "d1t1,d1t1,d1t1,d1t1,d1t1,d1t1,d1t1,d1t1,d1t1,d1t1");
        CHECK.refused("one reach", canal, canal::arrive, 5);
        canal.addReach(9, 90, 9, 4, 0);
        for (int i = 0; i < 14; i++) {
            canal.addShip(1, 1, 0, true);
        }
        Check.type(canal, "d1t1,d1t1,d1t1");
        CHECK.refused("a ship too many", canal, canal::arrive, 4);
        CHECK.same("none of them is made", canal.account(1), 14);
        CHECK.same("the text had no fault", canal.faultPosition(), -1);
        Check.type(canal, "d1t1,d1t1");
        CHECK.same("just 16", canal.arrive(), 2);
        CHECK.same("16 ships", canal.account(1), 16);
        Check.type(canal, "d1t1");
        CHECK.refused("no more", canal, canal::arrive, 4);
    }

    private static void faultPosition() {
        LockMaster canal = twoReaches();
        CHECK.same("ahead of arrive", canal.faultPosition(), -1);
        String[] faults = {"0:", "0:x", "0:,", "0:1", "0:D1t1", "0:t1", "1:d", "1:d0", "1:dd", "1:u0t1", "1:d-1t1",
            "2:d1", "2:d12", "2:d1 t1", "2:d1r1", "2:d1T1", "3:d1t", "3:d1t0", "3:d1tr", "3:d1t,", "3:d1t01",
            "4:d1t1 ", "4:d1t1x", "4:d1t1d", "4:d1t1t", "5:d1t1,", "5:d1t1,,", "5:d1t1, ", "6:d1t1,u", "5:d1t123",
            "5:d1t12d", "5:d1t1r", "5:d1t1r4", "5:d1t1r9", "5:d1t1rr", "5:d1t1r,", "6:d1t1r1r", "6:d1t1r12",
            "6:d1t1r1x", "7:d1t1r1,", "7:d1t12r3x", "13:d1t1,u2t3r1,d", "8:d1t1,d1t0", "6:d1t1,d0t1",
            "4:d1t1/", "4:d1t1:", "1:d:", "1:d/", "3:d1t:", "3:d1t/", "5:d1t1r:", "5:d1t1r/"};
        for (String fault : faults) {
            int colon = fault.indexOf(':');
            String text = fault.substring(colon + 1);
            Check.type(canal, text);
            CHECK.badArgument("arrive of " + text, canal::arrive);
            CHECK.same("the fault of " + text, canal.faultPosition(), fault.substring(0, colon));
            CHECK.same("no ship of " + text, canal.account(1), 0);
        }
        Check.type(canal, "d1t1");
        CHECK.same("before arrive it stays", canal.faultPosition(), 5);
        canal.arrive();
        CHECK.same("no fault", canal.faultPosition(), -1);
    }

    private static void ship() {
        LockMaster canal = new LockMaster();
        canal.addReach(9, 90, 0, 0, 0);
        canal.addReach(9, 90, 9, 4, 0);
        canal.addReach(9, 90, 5, 4, 0);
        canal.addShip(2, 30, 1, false);
        canal.addShip(3, 40, 2, true);
        canal.addShip(6, 1, 3, true);
        CHECK.same("0 at first", numbers(canal, 0), "2 30 1 0 0 0 0 0 1 -1 ");
        CHECK.same("1 at first", numbers(canal, 1), "3 40 2 1 2 1 0 1 1 -1 ");
        canal.pass(1);
        CHECK.same("0 was locked and has waited 0 ticks", numbers(canal, 0), "2 30 1 0 1 1 0 0 1 -1 ");
        CHECK.same("1 was locked", numbers(canal, 1), "3 40 2 1 1 0 0 1 1 -1 ");
        CHECK.same("2 is too long and waits", numbers(canal, 2), "6 1 3 1 2 1 1 2 1 -1 ");
        CHECK.same("both leave", canal.pass(1), 2);
        CHECK.same("0 has left in the tick 1", numbers(canal, 0), "2 30 1 0 -1 -1 0 0 1 1 ");
        CHECK.same("1 too", numbers(canal, 1), "3 40 2 1 -1 -1 0 1 1 1 ");
        canal.pass(3);
        CHECK.same("the time of a ship that left stands still", numbers(canal, 0), "2 30 1 0 -1 -1 0 0 1 1 ");
        CHECK.same("2 has waited 5 ticks", canal.ship(2, 6), 5);
        CHECK.same("a ship that is made later", canal.addShip(1, 1, 0, true), 3);
        CHECK.same("has not waited", canal.ship(3, 6), 0);
        CHECK.badIndex("ship -1", () -> canal.ship(-1, 0));
        CHECK.badIndex("ship 4, ahead of what", () -> canal.ship(4, 10));
        CHECK.badArgument("what -1", () -> canal.ship(0, -1));
        CHECK.badArgument("what 10", () -> canal.ship(0, 10));
    }

    private static String numbers(LockMaster canal, int ship) {
        StringBuilder text = new StringBuilder();
        for (int what = 0; what <= 9; what++) {
            text.append(canal.ship(ship, what)).append(' ');
        }
        return text.toString();
    }
}
