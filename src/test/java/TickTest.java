/** Promises 18 and 19: pass and tick, and what happens in a tick. */
public final class TickTest {
    private static final Check CHECK = new Check();

    public static void main(String[] args) {
        passWrong();
        lastTick();
        basins();
        nextConvoyIfNotReady();
        stuckUpwards();
        oneLockPerTick();
        order();
        longestRow();
        rulesLookAheadOfTheChamber();
        spills();
        inflowComesLast();
        countsOfLeaving();
        CHECK.finish();
    }

    private static LockMaster canal(int length, int chamber, int basins) {
        LockMaster canal = new LockMaster();
        canal.addReach(1, 50, 0, 0, 0);
        canal.addReach(1, 50, length, chamber, basins);
        return canal;
    }

    private static String water(LockMaster canal) {
        StringBuilder text = new StringBuilder();
        for (int k = 0; k < canal.account(0); k++) {
            text.append(canal.reach(k, 2)).append(' ');
            if (k + 1 < canal.account(0)) {
                text.append('(').append(canal.lock(k, 4)).append(' ').append(canal.lock(k, 5)).append(") ");
            }
        }
        return text.toString();
    }

    private static void passWrong() {
        LockMaster canal = new LockMaster();
        CHECK.badArgument("0 ticks", () -> canal.pass(0));
        CHECK.badArgument("41 ticks", () -> canal.pass(41));
        CHECK.badArgument("far below", () -> canal.pass(Integer.MIN_VALUE));
        CHECK.badArgument("far above", () -> canal.pass(Integer.MAX_VALUE));
        CHECK.badState("no reach", () -> canal.pass(1));
        canal.addReach(1, 10, 0, 0, 0);
        CHECK.badState("one reach", () -> canal.pass(40));
        CHECK.badArgument("the range comes first", () -> canal.pass(41));
        canal.addReach(1, 10, 1, 4, 0);
        CHECK.same("no ships", canal.pass(40), 0);
        CHECK.same("40 ticks", canal.tick(), 40);
        CHECK.same("one more", canal.pass(1), 0);
        CHECK.same("41 ticks", canal.tick(), 41);
    }

    private static void lastTick() {
        LockMaster canal = canal(5, 8, 0);
        canal.set(2, 1);
        for (int i = 0; i < 12; i++) {
            canal.pass(40);
        }
        CHECK.badArgument("to tick 501", () -> canal.pass(21));
        CHECK.same("to tick 500", canal.pass(20), 0);
        CHECK.same("500", canal.tick(), 500);
        CHECK.badArgument("no tick more", () -> canal.pass(1));
        CHECK.same("500 of inflow", canal.account(6), 500);
        CHECK.same("a ship can still be made", canal.addShip(1, 1, 0, true), 0);
        CHECK.noElement("but does not leave", () -> canal.untilLeft(0, 1));
    }

    private static void basins() {
        LockMaster canal = canal(5, 11, 2);
        canal.addShip(5, 1, 0, false);
        canal.addShip(5, 1, 0, false);
        canal.addShip(5, 1, 0, true);
        canal.addShip(5, 1, 0, true);
        CHECK.same("down", canal.pass(1), 1);
        CHECK.same("11 from above, 2 into each basin; 7 spill at level 50", water(canal), "39 (0 2) 50 ");
        CHECK.same("the 7 left the canal", canal.account(7), 7);
        CHECK.same("nothing from basins", canal.account(9), 0);
        canal.set(1, 0);
        CHECK.same("dryness 2 keeps the others back", canal.pass(1), 0);
        canal.set(2, 11);
        canal.pass(1);
        canal.set(2, 0);
        CHECK.same("filled by inflow", water(canal), "50 (0 2) 50 ");
        CHECK.same("down again", canal.pass(1), 1);
        CHECK.same("4 from the basins, 7 from above", water(canal), "43 (0 2) 50 ");
        CHECK.same("the account of the basins", canal.account(9), 4);
        canal.set(2, 7);
        canal.pass(1);
        canal.set(2, 0);
        CHECK.same("the ship that goes up left in that tick or is held back", canal.account(2), 2);
        CHECK.same("up", canal.pass(1), 1);
        CHECK.same("7 from above", water(canal), "43 (1 0) 50 ");
        CHECK.same("the account of the basins", canal.account(9), 8);
        canal.set(2, 7);
        canal.pass(1);
        canal.set(2, 0);
        CHECK.same("up again: emptied, then filled", canal.pass(1), 1);
        CHECK.same("the basins were filled first", water(canal), "43 (1 0) 50 ");
        CHECK.same("the account of the basins", canal.account(9), 12);
        CHECK.same("the lockings", canal.lock(0, 9), 4);
    }

    private static void nextConvoyIfNotReady() {
        LockMaster canal = new LockMaster();
        canal.addReach(1, 20, 0, 0, 0);
        canal.addReach(1, 20, 5, 21, 0);
        canal.addShip(1, 1, 3, false);
        canal.addShip(1, 1, 0, true);
        canal.pass(5);
        CHECK.same("neither can go", canal.account(8), 0);
        LockMaster full = new LockMaster();
        full.addReach(1, 20, 0, 0, 0);
        full.addReach(1, 20, 5, 12, 3);
        full.addShip(1, 1, 3, true);
        full.addShip(1, 1, 2, false);
        full.pass(1);
        CHECK.same("the first went up", water(full), "8 (1 0) 20 ");
        full.addShip(1, 1, 3, false);
        full.addShip(1, 1, 3, false);
        full.pass(1);
        CHECK.same("down with the water of the chamber", water(full), "8 (0 3) 20 ");
        full.addShip(1, 1, 3, true);
        full.pass(1);
        CHECK.same("down again, with 3 from above", water(full), "5 (0 3) 20 ");
        full.pass(1);
        CHECK.same("up, with 3 from above", water(full), "2 (1 0) 20 ");
    }

    private static void stuckUpwards() {
        LockMaster canal = new LockMaster();
        canal.addReach(1, 20, 0, 0, 0);
        canal.addReach(1, 20, 5, 12, 1);
        canal.addShip(1, 1, 3, true);
        canal.pass(1);
        CHECK.same("full", water(canal), "8 (1 0) 20 ");
        canal.addShip(1, 1, 3, true);
        canal.addShip(1, 1, 3, false);
        CHECK.same("each could go or not", canal.hindrance(1) + " " + canal.hindrance(2), "4 0");
        canal.pass(1);
        CHECK.same("emptied for the one that goes up, and nothing more", water(canal), "8 (0 1) 20 ");
        CHECK.same("9 went into the reach below", canal.account(7), 9);
        CHECK.same("no locking", canal.account(8), 1);
        canal.pass(1);
        CHECK.same("stuck: 9 lack", water(canal), "8 (0 1) 20 ");
        canal.set(2, 1);
        canal.pass(1);
        CHECK.same("the inflow comes behind the locks", canal.account(8), 1);
        canal.pass(1);
        CHECK.same("9 are there", canal.account(8), 2);
        LockMaster two = new LockMaster();
        two.addReach(1, 20, 0, 0, 0);
        two.addReach(1, 20, 5, 15, 1);
        two.addShip(1, 1, 3, false);
        two.pass(1);
        CHECK.same("5 above", water(two), "5 (0 1) 20 ");
        two.addShip(1, 1, 3, false);
        two.addShip(1, 1, 3, true);
        two.pass(1);
        CHECK.same("neither can fill it, and the basin keeps its water", water(two), "5 (0 1) 20 ");
    }

    private static void oneLockPerTick() {
        LockMaster canal = new LockMaster();
        for (int i = 0; i < 5; i++) {
            canal.addReach(9, 50, 5, 8, 0);
        }
        canal.addShip(1, 1, 0, false);
        canal.addShip(1, 1, 0, true);
        for (int i = 1; i <= 3; i++) {
            canal.pass(1);
            CHECK.same("down, a lock each tick", canal.ship(0, 4), i);
            CHECK.same("up, a lock each tick", canal.ship(1, 4), 4 - i);
            CHECK.same("waits", canal.ship(0, 5) + " " + canal.ship(1, 5), i + " " + (3 - i));
            CHECK.same("has not waited", canal.ship(0, 6) + canal.ship(1, 6), 0);
        }
        CHECK.same("both leave in the fourth tick", canal.pass(1), 2);
        CHECK.same("lockings", canal.account(8), 8);
    }

    private static void order() {
        LockMaster canal = canal(5, 4, 3);
        Check.type(canal, "u5t1r1,d5t1r2,u5t1r2,d5t1r3,d9t1r3");
        canal.arrive();
        canal.set(2, 99);
        int[] due = {3, 1, 2, 0};
        for (int i = 0; i < due.length; i++) {
            CHECK.same("one leaves", canal.pass(1), 1);
            CHECK.same("ship " + due[i], canal.ship(due[i], 4), -1);
            CHECK.same("in the tick " + i, canal.ship(due[i], 9), i);
        }
        LockMaster bonus = canal(5, 4, 3);
        bonus.set(2, 99);
        bonus.set(0, 1);
        bonus.addShip(5, 51, 0, false);
        bonus.addShip(5, 1, 1, false);
        bonus.addShip(5, 1, 0, true);
        bonus.pass(1);
        bonus.addShip(5, 1, 0, true);
        bonus.addShip(5, 1, 0, false);
        bonus.pass(1);
        CHECK.same("the bonus of 2 counts", bonus.ship(2, 9) + " " + bonus.ship(3, 9), "1 -1");
        bonus.pass(1);
        CHECK.same("then the lowest number", bonus.ship(3, 9) + " " + bonus.ship(4, 9), "2 -1");
    }

    private static void longestRow() {
        LockMaster canal = canal(6, 4, 0);
        Check.type(canal, "d2t1,d3t1,d2t1,d1t1,d6t1");
        canal.arrive();
        for (int s = 1; s < 5; s++) {
            canal.join(s, 0);
        }
        CHECK.same("2 and 3, but not 2 and 3 and 2, nor the 1 behind them", canal.pass(1), 2);
        CHECK.same("the others stay as a convoy", canal.ship(4, 7) + " " + canal.ship(4, 8), "2 3");
        CHECK.same("they keep their ticks", canal.ship(3, 6), 1);
        canal.set(1, 0);
        CHECK.same("2 and 1", canal.pass(1), 2);
        canal.set(2, 10);
        canal.pass(1);
        CHECK.same("6", canal.pass(1) + canal.account(2), 6);
        CHECK.same("ships that it has locked", canal.lock(0, 8) + " " + canal.lock(0, 9), "5 3");
    }

    private static void rulesLookAheadOfTheChamber() {
        LockMaster canal = canal(5, 30, 0);
        canal.addShip(1, 50, 0, false);
        CHECK.same("the level before the chamber is filled counts", canal.pass(1), 1);
        LockMaster below = new LockMaster();
        below.addReach(1, 50, 0, 0, 0);
        below.addReach(1, 20, 5, 30, 0);
        below.addReach(1, 20, 5, 4, 0);
        below.addShip(1, 1, 0, false);
        below.addShip(1, 20, 0, true);
        below.addShip(1, 20, 3, true);
        CHECK.same("the second lock sees what the first one emptied", below.pass(1), 0);
        CHECK.same("30 came and 4 went; 26 spill", below.reach(1, 2) + " " + below.ship(2, 4), "20 1");
    }

    private static void spills() {
        LockMaster canal = new LockMaster();
        canal.addReach(3, 10, 0, 0, 0);
        canal.addReach(4, 20, 1, 4, 0);
        canal.addReach(2, 30, 1, 4, 0);
        canal.set(2, 2);
        canal.pass(1);
        CHECK.same("32 of 30 is no higher level", water(canal), "32 (0 0) 80 (0 0) 60 ");
        canal.pass(1);
        CHECK.same("34 is: all above 30 goes, which is a level of 21", water(canal), "30 (0 0) 80 (0 0) 60 ");
        CHECK.same("4 cascade to the end", canal.account(7), 4);
        canal.set(2, 3);
        canal.pass(1);
        CHECK.same("33 is level 11; 83 stays", water(canal), "30 (0 0) 83 (0 0) 60 ");
        CHECK.same("nothing left", canal.account(7), 4);
        canal.set(2, 99);
        canal.pass(1);
        CHECK.same("all above the normal level", water(canal), "30 (0 0) 80 (0 0) 60 ");
        CHECK.same("102 left", canal.account(7), 106);
        CHECK.same("came in", canal.account(6), 106);
        canal.set(2, 0);
        canal.addShip(1, 1, 3, false);
        canal.pass(1);
        CHECK.same("4 go down and stay below the next level", water(canal), "26 (0 0) 80 (0 0) 60 ");
    }

    private static void inflowComesLast() {
        LockMaster canal = new LockMaster();
        canal.addReach(1, 10, 0, 0, 0);
        canal.addReach(1, 10, 5, 11, 0);
        canal.set(2, 50);
        canal.addShip(1, 1, 0, false);
        canal.pass(3);
        CHECK.same("the inflow spills before the lock can take it", canal.account(8), 0);
        CHECK.same("150 came and went", canal.account(6) + " " + canal.account(7), "150 150");
    }

    private static void countsOfLeaving() {
        LockMaster canal = canal(9, 4, 3);
        canal.set(2, 99);
        Check.type(canal, "d9t1,d9t1,d9t1,u9t1,u3t1,u3t1,u3t1");
        canal.arrive();
        canal.join(5, 4);
        canal.join(6, 4);
        CHECK.same("one", canal.pass(1), 1);
        CHECK.same("three more", canal.pass(3), 3);
        CHECK.same("a convoy of three", canal.pass(40), 3);
        CHECK.same("none", canal.pass(40), 0);
    }
}
