/** The sentences under "A tick", and those of "In doubt, too" that tell of chambers. */
final class TickSentences {
    private TickSentences() {
    }

    static void tell(Sentences sentences) {
        sentences.plain("Terms", "A tick.", "In doubt, too.",
                "Ahead of the calls `addReach`, `set`, `reach`, `lock` the interface says: The canal.",
                "Ahead of the calls `addShip`, `append`, `arrive`, `faultPosition`, `join`, `part`, `refusal`, `ship`, "
                + "`convoy`, `waiting`, `priority`, `hindrance` the interface says: Ships and convoys.",
                "Ahead of the calls `pass`, `tick`, `untilLeft`, `account`, `meanLocked`, `undo`, `save`, `restore` the "
                + "interface says: Time and accounts.");
        sentences.of("Terms", "When a tick goes by, this happens at each lock in ascending order:",
                TickSentences::locksInAscendingOrder);
        sentences.of("Terms", "of the convoys that wait there, those whose row that would go has a ship and may go by the "
                + "rules of draught and drought are looked at in their order,", TickSentences::convoysInTheirOrder);
        sentences.of("Terms", "without those with a ship that was locked in this tick.", TickSentences::oneLockInATick);
        sentences.of("Terms", "The first one for which the chamber can be made ready is chosen: it must be full for a row "
                + "that goes down and empty for one that goes up; if it is not, it is filled, if that is possible, or "
                + "emptied.", TickSentences::madeReady);
        sentences.of("Terms", "Then the chamber is emptied for a row that goes down, and filled for one that goes up, and "
                + "the row is locked; if it cannot be filled, the row stays, and nothing more happens at this lock in "
                + "this tick.", TickSentences::cannotBeFilledForUp);
        sentences.of("Terms", "The ships that are locked come into the next reach and wait at the next lock as a convoy, "
                + "or leave.", TickSentences::nextReach);
        sentences.of("Terms", "Behind all locks the inflow, a setting from 0 to 99, 0 at first, comes into the reach 0, "
                + "water spills, and the tick number increases by 1.", TickSentences::behindAllLocks);
        sentences.of("Terms", "A chamber that cannot be filled keeps its basins as they are; emptying is always possible.",
                TickSentences::basinsStay);
        sentences.of("Terms", "It is seen only behind the choice whether a chamber that is empty for a row that goes up "
                + "can be filled.", TickSentences::seenBehindTheChoice);
    }

    /** Lock 1 takes 25 units, more than reach 1 has before lock 0 gave it 30. */
    private static void locksInAscendingOrder(Check check) {
        LockMaster canal = Canals.levels(50, 20, 5, 30, 0);
        canal.addReach(1, 20, 5, 25, 0);
        Canals.with(canal, "d5t1,u5t1").pass(1);
        check.same("lock 0, then lock 1", canal.lock(0, 9) + " " + canal.lock(1, 9), "1 1");
        check.same("water", Canals.water(canal), "20 (0 0) 20 (1 0) 20");
        LockMaster upward = Canals.levels(50, 20, 5, 4, 0);
        upward.addReach(1, 30, 5, 10, 0);
        Canals.with(upward, "d5t20,u5t1r3").pass(1);
        check.same("lock 0 still saw the level 20 in reach 1", upward.lock(0, 9) + " " + upward.lock(1, 9), "1 1");
    }

    private static void convoysInTheirOrder(Check check) {
        LockMaster canal = Canals.with(Canals.plenty(3, 5), "d5t1r1,d6t1r3,d5t91r3,d5t1r2,d5t1r2");
        check.same("in their order", Canals.order(canal, 0), "1 2 3 4 0");
        canal.pass(1);
        check.same("ship 3 is the first one that may go", reaches(canal), "0 0 0 1 0");
        canal.pass(1);
        check.same("of the same priority, the lowest first", reaches(canal), "0 0 0 -1 1");
        canal.pass(1);
        check.same("then the last one", reaches(canal), "1 0 0 -1 -1");
        LockMaster both = Canals.with(Canals.plenty(2, 5), "d5t1,u5t1r1,d5t1r2,u5t1r3");
        for (int ship = 3; ship >= 0; ship--) {
            check.same("one a tick", both.pass(1), 1);
            check.same("in both directions, ship " + ship, both.ship(ship, 4), -1);
        }
        LockMaster bonus = Canals.plenty(2, 5);
        bonus.set(0, 1);
        Canals.with(bonus, "d5t1,d5t1r3,d5t1r3,d5t1r3,d5t1r3,d5t1r3").pass(5);
        bonus.addShip(5, 1, 1, true);
        bonus.pass(1);
        check.same("a bonus of 5 against a rank of 1", reaches(bonus), "-1 -1 -1 -1 -1 -1 1");
        bonus.undo();
        bonus.set(0, 5);
        bonus.pass(1);
        check.same("a bonus of 1 against a rank of 1", reaches(bonus), "0 -1 -1 -1 -1 -1 -1");
        LockMaster nobody = Canals.plenty(2, 5);
        check.same("no convoy waits", nobody.pass(40), 0);
        check.same("and no chamber moves", Canals.water(nobody), "810 (0 0) 810");
    }

    private static String reaches(LockMaster canal) {
        StringBuilder text = new StringBuilder();
        for (int s = 0; s < canal.account(1); s++) {
            text.append(s == 0 ? "" : " ").append(canal.ship(s, 4));
        }
        return text.toString();
    }

    private static void oneLockInATick(Check check) {
        LockMaster canal = Canals.plenty(5, 9);
        Canals.with(canal, "d1t1,d1t1");
        canal.join(1, 0);
        for (int k = 1; k <= 3; k++) {
            canal.pass(1);
            check.same("reach " + k, canal.ship(0, 4) + " " + canal.ship(1, 4), k + " " + k);
        }
        check.same("both leave in the fourth tick", canal.pass(1), 2);
        LockMaster other = Canals.with(Canals.plenty(3, 9), "d1t1r3,u1t1");
        other.pass(1);
        check.same("one that was not locked goes before it", other.ship(0, 4) + " " + other.ship(1, 4), "1 1");
    }

    private static void madeReady(Check check) {
        LockMaster emptyForDown = Canals.with(Canals.narrow(5, 8, 1), "d5t1");
        check.same("filled, then emptied", emptyForDown.pass(1), 1);
        check.same("8 from above", Canals.water(emptyForDown), "12 (0 1) 20");
        check.same("6 went below", emptyForDown.account(7), 6);
        LockMaster fullForDown = Canals.with(Canals.narrow(5, 8, 1), "u5t1");
        fullForDown.pass(1);
        check.same("full", Canals.water(fullForDown), "12 (1 0) 20");
        Canals.with(fullForDown, "d5t1r3").pass(1);
        check.same("only emptied", Canals.water(fullForDown), "12 (0 1) 20");
        Canals.with(fullForDown, "u5t1r3").pass(1);
        check.same("empty for up: only filled", Canals.water(fullForDown), "6 (1 0) 20");
        Canals.with(fullForDown, "u5t1r3").pass(1);
        check.same("full for up: emptied, then filled", Canals.water(fullForDown), "0 (1 0) 20");
        check.same("each of the four made a locking", fullForDown.account(8), 4);
        LockMaster notPossible = Canals.with(Canals.narrow(5, 21, 3), "d5t1r3,d5t1");
        check.same("to fill it is not possible", notPossible.pass(3), 0);
        check.same("nothing happened", Canals.water(notPossible), "20 (0 0) 20");
    }

    private static void cannotBeFilledForUp(Check check) {
        LockMaster canal = Canals.with(Canals.narrow(5, 12, 1), "u5t1r3");
        canal.pass(1);
        check.same("full, and 8 above", Canals.water(canal), "8 (1 0) 20");
        Canals.with(canal, "u5t1r3,d5t1r3");
        check.same("only the second one could go", canal.hindrance(1) + " " + canal.hindrance(2), "4 0");
        check.same("nobody goes", canal.pass(1), 0);
        check.same("as it was emptied for the first one", Canals.water(canal), "8 (0 1) 20");
        check.same("and then 9 lacked", canal.hindrance(1) + " " + canal.hindrance(2), "4 4");
        check.same("9 went below and left", canal.account(7), 9);
        check.same("no locking", canal.account(8) + " " + canal.lock(0, 8), "1 1");
        check.same("they wait", canal.ship(1, 6) + " " + canal.ship(2, 6), "1 1");
        canal.set(2, 1);
        canal.pass(1);
        check.same("with 9 above", canal.pass(1), 1);
        check.same("the first one went", Canals.water(canal) + " " + canal.ship(1, 4), "1 (1 0) 20 -1");
        LockMaster otherLock = Canals.narrow(5, 21, 0);
        otherLock.addReach(1, 20, 5, 4, 0);
        Canals.with(otherLock, "u5t1,u5t1").pass(2);
        check.same("the next lock has its turn", reaches(otherLock), "1 1");
        check.same("lockings", otherLock.lock(0, 9) + " " + otherLock.lock(1, 9), "0 2");
    }

    private static void nextReach(Check check) {
        LockMaster canal = Canals.with(Canals.plenty(3, 9), "d1t1,d2t1,d3t1,u1t1,u2t1");
        canal.join(2, 0);
        canal.join(1, 0);
        canal.join(3, 4);
        canal.pass(1);
        check.same("the convoy of three in reach 1", canal.reach(0, 5) + " " + canal.reach(1, 5), "0 5");
        check.same("in its order", Canals.convoy(canal, 1) + ", " + Canals.convoy(canal, 3), "0 2 1, 4 3");
        check.same("at the next locks", Canals.order(canal, 1) + ", " + Canals.order(canal, 0), "0, 4");
        check.same("or leave", canal.pass(1), 5);
        check.same("ships that have left are alone", Canals.convoy(canal, 1) + ", " + Canals.convoy(canal, 4), "1, 4");
    }

    private static void behindAllLocks(Check check) {
        LockMaster canal = Canals.levels(10, 10, 5, 11, 0);
        check.same("0 at first", canal.set(2, 99), 0);
        check.badArgument("100", () -> canal.set(2, 100));
        check.badArgument("-1", () -> canal.set(2, -1));
        canal.addShip(5, 1, 0, false);
        canal.pass(1);
        check.same("the lock did not have the inflow, and it spilled", canal.account(8) + " " + Canals.water(canal),
                "0 10 (0 0) 10");
        check.same("99 came and went", canal.account(6) + " " + canal.account(7), "99 99");
        check.same("one tick", canal.tick(), 1);
        check.same("0 is the least", canal.set(2, 0), 99);
        canal.pass(1);
        check.same("nothing came", canal.account(6) + " " + canal.account(7), "99 99");
        LockMaster lacking = Canals.with(Canals.levels(20, 20, 5, 12, 0), "d5t1r3,u5t1");
        lacking.pass(1);
        lacking.set(2, 3);
        lacking.pass(1);
        check.same("comes into the reach 0 behind the lock", Canals.water(lacking), "11 (0 0) 20");
        lacking.pass(1);
        check.same("again", Canals.water(lacking), "14 (0 0) 20");
    }

    private static void basinsStay(Check check) {
        LockMaster canal = Canals.with(Canals.levels(20, 20, 5, 17, 3), "d5t1r3");
        canal.pass(1);
        check.same("3 above, 12 in the basins", Canals.water(canal), "3 (0 3) 20");
        Canals.with(canal, "d5t1r3,u5t1r3");
        check.same("5 lack, down and up", canal.hindrance(1) + " " + canal.hindrance(2), "4 4");
        canal.pass(1);
        check.same("the basins stay", Canals.water(canal) + " " + canal.lock(0, 6), "3 (0 3) 20 12");
        check.same("they gave nothing", canal.account(9), 0);
        LockMaster upOnly = Canals.with(Canals.levels(20, 20, 5, 17, 3), "d5t1r3,u5t1r3");
        upOnly.pass(2);
        check.same("up alone", Canals.water(upOnly) + " " + upOnly.account(9), "3 (0 3) 20 0");
        LockMaster below = Canals.with(Canals.levels(60, 10, 5, 60, 0), "d5t1");
        check.same("emptied into a reach that is full", below.pass(1), 1);
        check.same("which spills", Canals.water(below) + " " + below.account(7), "0 (0 0) 10 60");
        LockMaster dry = Canals.with(Canals.levels(60, 10, 5, 59, 0), "u5t1");
        dry.pass(1);
        Canals.with(dry, "u5t1r3").pass(1);
        check.same("a dry reach above does not hinder emptying", Canals.water(dry) + " " + dry.account(8),
                "1 (0 0) 10 1");
    }

    /** An empty chamber is ready for a row that goes up; nobody else could go instead, and nothing happens. */
    private static void seenBehindTheChoice(Check check) {
        LockMaster canal = Canals.with(Canals.narrow(5, 21, 0), "u5t1r3,u5t1r2,d5t1r1");
        check.same("each could not", canal.hindrance(0) + " " + canal.hindrance(1) + " " + canal.hindrance(2), "4 4 4");
        check.same("nobody goes", canal.pass(3), 0);
        check.same("nothing happens", Canals.water(canal) + " " + canal.account(8), "20 (0 0) 20 0");
    }
}
