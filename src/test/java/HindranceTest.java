/** Promise 17: hindrance, and that a tick goes by the same rules. */
public final class HindranceTest {
    private static final Check CHECK = new Check();

    public static void main(String[] args) {
        noRow();
        draught();
        draughtOfBothReaches();
        dryLength();
        dryGrace();
        drynessTwo();
        chamberForDown();
        fullChamber();
        upWithFullChamber();
        firstReason();
        wrong();
        CHECK.finish();
    }

    /** Two reaches of the area 1 and the normal level 20, with lock 0 between them. */
    private static LockMaster canal(int length, int chamber, int basins) {
        LockMaster canal = new LockMaster();
        canal.addReach(1, 20, 0, 0, 0);
        canal.addReach(1, 20, length, chamber, basins);
        return canal;
    }

    /** Each locking takes 4 units from reach 0: the level is 16 and the dryness 1 behind one, 12 and 2 behind two. */
    private static LockMaster dry(int length, int lockings) {
        LockMaster canal = canal(length, 4, 0);
        for (int i = 0; i < lockings; i++) {
            canal.addShip(length, 1, 3, false);
            CHECK.same("one leaves", canal.pass(1), 1);
        }
        CHECK.same("the dryness", canal.reach(0, 4), lockings);
        return canal;
    }

    /** Only for canals in which no other convoy may go. */
    private static void due(String what, LockMaster canal, int ship, int hindrance) {
        CHECK.same(what, canal.hindrance(ship), hindrance);
        int lockings = canal.account(8);
        canal.pass(1);
        CHECK.same(what + ", in a tick", canal.account(8) - lockings, hindrance == 0 ? 1 : 0);
        canal.undo();
    }

    private static void noRow() {
        LockMaster canal = canal(5, 4, 0);
        canal.addShip(6, 1, 3, false);
        canal.addShip(5, 1, 3, false);
        canal.join(1, 0);
        due("the first ship is too long", canal, 1, 1);
        canal.part(0);
        canal.join(0, 1);
        due("only the second one is", canal, 0, 0);
    }

    private static void draught() {
        LockMaster canal = canal(5, 4, 0);
        canal.addShip(1, 20, 0, false);
        due("just deep enough", canal, 0, 0);
        canal.addShip(3, 21, 0, false);
        canal.join(1, 0);
        due("the second of the row", canal, 0, 2);
        canal.part(1);
        canal.join(0, 1);
        due("the first of the row", canal, 0, 2);
        LockMaster longer = canal(5, 4, 0);
        longer.addShip(3, 1, 0, false);
        longer.addShip(3, 99, 0, false);
        longer.join(1, 0);
        due("the one behind the row does not count", longer, 1, 0);
    }

    private static void draughtOfBothReaches() {
        LockMaster falling = new LockMaster();
        falling.addReach(1, 30, 0, 0, 0);
        falling.addReach(1, 20, 5, 4, 0);
        falling.addShip(1, 21, 3, false);
        due("the reach into which it would come", falling, 0, 2);
        LockMaster rising = new LockMaster();
        rising.addReach(1, 30, 0, 0, 0);
        rising.addReach(1, 20, 5, 4, 0);
        rising.addShip(1, 21, 3, true);
        due("the reach in which it waits", rising, 0, 2);
        LockMaster wide = new LockMaster();
        wide.addReach(4, 10, 0, 0, 0);
        wide.addReach(4, 10, 5, 5, 0);
        wide.addShip(5, 10, 3, true);
        wide.addShip(5, 9, 3, true);
        wide.pass(1);
        CHECK.same("35 of 40 is the level 8, rounded down", wide.reach(0, 3), 8);
        due("the reach above", wide, 1, 2);
    }

    private static void dryLength() {
        for (int size = 1; size <= 5; size++) {
            boolean goesUp = size % 2 == 0;
            LockMaster odd = dry(7, 1);
            odd.addShip(size, 1, 3, goesUp);
            due("size " + size + " of 7", odd, 1, size >= 4 ? 0 : 3);
            LockMaster even = dry(6, 1);
            even.addShip(size, 1, 0, !goesUp);
            due("size " + size + " of 6", even, 1, size >= 3 ? 0 : 3);
        }
        LockMaster canal = dry(9, 1);
        canal.addShip(2, 1, 0, false);
        canal.addShip(8, 1, 0, true);
        canal.addShip(3, 1, 0, false);
        canal.addShip(9, 1, 0, false);
        canal.join(4, 1);
        CHECK.same("the others do not count", canal.hindrance(1), 3);
        canal.part(4);
        canal.join(3, 1);
        CHECK.same("the sizes of the row do together", canal.hindrance(1), 0);
    }

    private static void dryGrace() {
        LockMaster canal = dry(9, 1);
        canal.set(1, 3);
        canal.addShip(1, 1, 0, false);
        for (int i = 0; i < 3; i++) {
            due("before the grace", canal, 1, 3);
            canal.pass(1);
        }
        due("behind the grace", canal, 1, 0);
        canal.addShip(1, 1, 0, false);
        canal.join(1, 2);
        due("the first ship has not waited", canal, 1, 3);
        canal.part(1);
        canal.join(2, 1);
        due("the first ship has waited", canal, 2, 0);
        canal.set(1, 50);
        due("a longer grace", canal, 2, 3);
        canal.set(1, 0);
        canal.part(2);
        CHECK.same("no grace", canal.hindrance(2), 0);
    }

    private static void drynessTwo() {
        for (int rank = 0; rank <= 3; rank++) {
            LockMaster canal = dry(4, 2);
            canal.set(1, 0);
            canal.addShip(1, 1, rank, rank % 2 == 0);
            due("rank " + rank, canal, 2, rank == 3 ? 0 : 3);
        }
        LockMaster canal = dry(4, 2);
        canal.set(1, 0);
        canal.addShip(2, 1, 3, false);
        canal.addShip(2, 1, 2, false);
        canal.join(3, 2);
        due("all ships of the row must be of rank 3", canal, 2, 3);
        canal.part(2);
        canal.join(2, 3);
        due("in any order", canal, 2, 3);
        LockMaster behind = dry(4, 2);
        behind.addShip(3, 1, 3, false);
        behind.addShip(2, 1, 0, false);
        behind.join(3, 2);
        due("the one behind the row does not count", behind, 3, 0);
        LockMaster below = canal(5, 4, 0);
        below.addReach(1, 99, 5, 60, 0);
        below.addReach(1, 20, 5, 60, 0);
        below.addShip(1, 1, 0, false);
        CHECK.same("only the reach above the lock counts", below.hindrance(0), 0);
    }

    private static void chamberForDown() {
        LockMaster enough = canal(5, 20, 0);
        enough.addShip(1, 1, 3, false);
        due("just enough water", enough, 0, 0);
        LockMaster lacking = canal(5, 21, 3);
        lacking.addShip(1, 1, 3, false);
        due("a unit lacks, and the basins are empty", lacking, 0, 4);
        lacking.pass(2);
        CHECK.same("nothing happens", lacking.reach(0, 2) + " " + lacking.lock(0, 6), "20 0");
        LockMaster basins = canal(5, 15, 3);
        basins.addShip(1, 1, 3, false);
        basins.addShip(1, 1, 3, false);
        basins.pass(1);
        CHECK.same("5 above, 9 in the basins", basins.reach(0, 2) + " " + basins.lock(0, 6), "5 9");
        due("6 lack", basins, 1, 4);
        basins.set(2, 1);
        basins.pass(1);
        due("no more", basins, 1, 0);
    }

    private static void fullChamber() {
        LockMaster canal = canal(5, 12, 0);
        canal.addShip(1, 1, 3, true);
        canal.pass(1);
        CHECK.same("full", canal.lock(0, 4) + " " + canal.reach(0, 2), "1 8");
        canal.addShip(1, 1, 3, false);
        due("a row that goes down takes a full chamber", canal, 1, 0);
        LockMaster lacking = canal(5, 21, 0);
        lacking.addShip(1, 1, 3, true);
        due("an empty chamber is ready, and then cannot be filled", lacking, 0, 4);
    }

    private static void upWithFullChamber() {
        for (int basins = 0; basins <= 3; basins++) {
            LockMaster canal = canal(5, 12, basins);
            canal.addShip(1, 1, 3, true);
            canal.addShip(1, 1, 3, true);
            canal.pass(1);
            CHECK.same("8 are above", canal.reach(0, 2) + " " + canal.lock(0, 4), "8 1");
            due(basins + " basins save 3 units each", canal, 1, 12 - 3 * basins <= 8 ? 0 : 4);
            CHECK.same("to ask changes nothing", canal.lock(0, 6), 12);
        }
    }

    private static void firstReason() {
        LockMaster canal = canal(5, 60, 0);
        canal.addShip(6, 99, 0, true);
        canal.addShip(5, 21, 0, true);
        CHECK.same("no row ahead of the draught", canal.hindrance(0), 1);
        CHECK.same("draught ahead of the chamber", canal.hindrance(1), 2);
        LockMaster dry = canal(5, 13, 0);
        dry.addShip(5, 1, 3, false);
        dry.pass(1);
        dry.addShip(5, 8, 0, false);
        dry.addShip(5, 7, 0, false);
        dry.addShip(5, 7, 3, false);
        CHECK.same("draught ahead of the drought", dry.hindrance(1), 2);
        CHECK.same("drought ahead of the chamber", dry.hindrance(2), 3);
        CHECK.same("the chamber", dry.hindrance(3), 4);
    }

    private static void wrong() {
        LockMaster canal = canal(5, 4, 0);
        canal.addShip(1, 1, 0, false);
        CHECK.badIndex("ship -1", () -> canal.hindrance(-1));
        CHECK.badIndex("ship 1", () -> canal.hindrance(1));
        canal.pass(1);
        CHECK.badState("it has left", () -> canal.hindrance(0));
    }
}
