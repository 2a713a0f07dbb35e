/** The sentences under "Ships", "Convoys" and "Priority". */
final class ShipSentences {
    private ShipSentences() {
    }

    static void tell(Sentences sentences) {
        sentences.plain("Terms", "Ships.", "Convoys.", "Priority.",
                "it goes up or down; it is in a reach, waits at the lock ahead of it, or has left the canal.");
        sentences.of("Terms", "At most 16 ships are ever made, numbered from 0.", ShipSentences::mostShips);
        sentences.of("Terms", "A ship has a size from 1 to 9, a draught from 1 to 99, and a rank from 0 to 3;",
                ShipSentences::shipRanges);
        sentences.of("Terms", "A ship begins at one end: a ship that goes down in reach 0, one that goes up in the lowest "
                + "reach, and waits there.", ShipSentences::beginsAtOneEnd);
        sentences.of("Terms", "A ship in the reach k waits at the lock k if it goes down, and at the lock k - 1 if it goes "
                + "up.", ShipSentences::lockAhead);
        sentences.of("Terms", "A ship that comes into the last reach on its way has left.", ShipSentences::lastReach);
        sentences.of("Terms", "The ticks that it has waited at a lock are those that have gone by since it came there; the "
                + "tick in which it was locked does not count.", ShipSentences::waited);
        sentences.of("Terms", "Behind the tick in which it was locked a ship has waited 0 ticks.",
                ShipSentences::waitedNoneWhenLocked);
        sentences.of("Terms", "Ships can be joined to a convoy with another one if both wait at the same lock in the same "
                + "direction.", ShipSentences::sameLockAndDirection);
        sentences.of("Terms", "A convoy is a row of ships in the order in which they were joined; a ship alone is a convoy "
                + "of one.", ShipSentences::orderOfJoining);
        sentences.of("Terms", "The row that would go is the longest row of its first ships whose sizes are together at "
                + "most the length of the lock.", ShipSentences::longestRow);
        sentences.of("Terms", "When a convoy is locked, this row goes as a convoy, and the others stay as a convoy; a "
                + "convoy whose first ship is longer than the lock never goes.", ShipSentences::rowGoesOthersStay);
        sentences.of("Terms", "Ships that are joined keep the ticks that they have waited.", ShipSentences::keepTheirTicks);
        sentences.of("Terms", "A row is one locking.", ShipSentences::oneLocking);
        sentences.of("Terms", "The priority of a convoy that waits is 4 times the greatest rank of its ships, plus a "
                + "bonus: the number of ticks that its first ship has waited at this lock, divided by the patience and "
                + "rounded down.", ShipSentences::priority);
        sentences.of("Terms", "Patience is a setting from 1 to 20, 5 at first.", ShipSentences::patience);
        sentences.of("Terms", "Of several convoys at a lock, in both directions, the one with the greatest priority is "
                + "first; of the same priority, the one whose first ship has the lowest number.",
                ShipSentences::orderOfConvoys);
    }

    private static void mostShips(Check check) {
        LockMaster canal = Canals.plenty(2, 9);
        for (int s = 0; s < 16; s++) {
            check.same("ship " + s, canal.addShip(1, 1, 3, s % 2 == 0), s);
        }
        check.refused("a seventeenth", canal, () -> canal.addShip(1, 1, 3, true), 4);
        check.same("ships", canal.account(1), 16);
        check.badIndex("no ship 16", () -> canal.ship(16, 0));
        canal.pass(40);
        check.same("some have left", canal.account(2) > 0, true);
        check.refused("behind their leaving", canal, () -> canal.addShip(1, 1, 3, true), 4);
        Check.type(canal, "d1t1");
        check.refused("in a text", canal, canal::arrive, 4);
    }

    private static void shipRanges(Check check) {
        LockMaster canal = Canals.plenty(2, 9);
        for (int size : new int[] {Integer.MIN_VALUE, -1, 0, 10, 11, Integer.MAX_VALUE}) {
            check.badArgument("size " + size, () -> canal.addShip(size, 50, 1, true));
        }
        for (int draught : new int[] {Integer.MIN_VALUE, -1, 0, 100, 101, Integer.MAX_VALUE}) {
            check.badArgument("draught " + draught, () -> canal.addShip(5, draught, 1, true));
        }
        for (int rank : new int[] {Integer.MIN_VALUE, -1, 4, 5, Integer.MAX_VALUE}) {
            check.badArgument("rank " + rank, () -> canal.addShip(5, 50, rank, true));
        }
        check.same("no ship", canal.account(1), 0);
        check.same("least size", canal.addShip(1, 50, 1, true), 0);
        check.same("greatest size", canal.addShip(9, 50, 1, true), 1);
        check.same("least draught", canal.addShip(5, 1, 1, true), 2);
        check.same("greatest draught", canal.addShip(5, 99, 1, true), 3);
        check.same("least rank", canal.addShip(5, 50, 0, true), 4);
        check.same("greatest rank", canal.addShip(5, 50, 3, true), 5);
        check.same("sizes", canal.ship(0, 0) + " " + canal.ship(1, 0), "1 9");
        check.same("draughts", canal.ship(2, 1) + " " + canal.ship(3, 1), "1 99");
        check.same("ranks", canal.ship(4, 2) + " " + canal.ship(5, 2), "0 3");
    }

    private static void beginsAtOneEnd(Check check) {
        for (int reaches = 2; reaches <= 5; reaches++) {
            LockMaster canal = Canals.with(Canals.plenty(reaches, 9), "d1t1,u1t1");
            check.same("down begins in reach 0 of " + reaches, canal.ship(0, 4), 0);
            check.same("and waits there", canal.ship(0, 5), 0);
            check.same("up begins in the lowest of " + reaches, canal.ship(1, 4), reaches - 1);
            check.same("and waits there", canal.ship(1, 5), reaches - 2);
        }
    }

    private static void lockAhead(Check check) {
        LockMaster canal = Canals.with(Canals.plenty(5, 9), "d1t1,u1t1");
        for (int k = 0; k <= 3; k++) {
            check.same("the reach on the way down", canal.ship(0, 4), k);
            check.same("its lock", canal.ship(0, 5), k);
            check.same("the reach on the way up", canal.ship(1, 4), 4 - k);
            check.same("its lock", canal.ship(1, 5), 3 - k);
            canal.pass(1);
        }
    }

    private static void lastReach(Check check) {
        for (int reaches = 2; reaches <= 5; reaches++) {
            for (int up = 0; up <= 1; up++) {
                LockMaster canal = Canals.plenty(reaches, 9);
                canal.addShip(1, 1, 0, up == 1);
                for (int k = 1; k < reaches - 1; k++) {
                    check.same("in a reach between", canal.pass(1), 0);
                    check.same("has not left", canal.ship(0, 4), up == 1 ? reaches - 1 - k : k);
                }
                check.same("the last reach", canal.pass(1), 1);
                check.same("it has left", canal.ship(0, 4) + " " + canal.ship(0, 5) + " " + canal.account(2), "-1 -1 1");
                check.same("ships in the ends", canal.reach(0, 5) + canal.reach(reaches - 1, 5), 0);
            }
        }
    }

    private static void waited(Check check) {
        LockMaster canal = Canals.plenty(3, 5);
        canal.pass(7);
        Canals.with(canal, "d6t1,d5t1r1,d5t1");
        check.same("0 at first, whatever the tick number", canal.ship(0, 6), 0);
        canal.pass(1);
        check.same("a tick has gone by", canal.ship(0, 6) + " " + canal.ship(2, 6), "1 1");
        check.same("the tick in which it was locked does not count", canal.ship(1, 6), 0);
        canal.addShip(6, 1, 0, false);
        canal.pass(1);
        check.same("two", canal.ship(0, 6), 2);
        check.same("at the next lock it begins anew", canal.ship(2, 6), 0);
        check.same("one for a later ship", canal.ship(3, 6), 1);
        canal.pass(40);
        check.same("42", canal.ship(0, 6), 42);
    }

    private static void waitedNoneWhenLocked(Check check) {
        LockMaster canal = Canals.with(Canals.plenty(5, 9), "d1t1,u1t1");
        for (int k = 0; k < 3; k++) {
            canal.pass(1);
            check.same("down", canal.ship(0, 6), 0);
            check.same("up", canal.ship(1, 6), 0);
        }
        LockMaster late = Canals.plenty(3, 5);
        late.set(0, 1);
        late.addShip(5, 91, 0, false);
        late.addShip(5, 1, 0, false);
        late.pass(1);
        check.same("a bonus for the one that waits", late.priority(0), 1);
        check.same("and none for the one that was locked", late.priority(1), 0);
    }

    private static void sameLockAndDirection(Check check) {
        LockMaster canal = Canals.with(Canals.plenty(3, 9), "d1t1,d9t1,u1t1,d9t1r1,u9t1");
        check.refused("another lock", canal, () -> canal.join(0, 2), 3);
        check.same("the same lock and direction", canal.join(1, 3), 2);
        check.same("upwards too", canal.join(4, 2), 2);
        canal.part(4);
        canal.pass(1);
        check.same("3 and 2 were locked", canal.ship(3, 4) + " " + canal.ship(2, 4), "1 1");
        check.refused("the same reach, but another lock", canal, () -> canal.join(2, 3), 3);
        check.refused("the same lock, but another direction", canal, () -> canal.join(2, 0), 3);
        check.refused("the same direction, but another lock", canal, () -> canal.join(0, 3), 3);
        canal.pass(1);
        check.same("3 has left, 0 waits", canal.ship(3, 4) + " " + canal.ship(0, 4), "-1 1");
        check.refused("one that has left", canal, () -> canal.join(3, 0), 3);
        check.refused("with one that has left", canal, () -> canal.join(0, 3), 3);
        canal.pass(1);
        check.same("both have left", canal.ship(3, 4) + " " + canal.ship(0, 4), "-1 -1");
        check.refused("one with the other", canal, () -> canal.join(0, 3), 3);
        check.refused("the other with the one", canal, () -> canal.join(3, 0), 3);
    }

    private static void orderOfJoining(Check check) {
        LockMaster canal = Canals.with(Canals.plenty(2, 9), "d1t1,d1t1,d1t1,d1t1,d1t1");
        check.same("alone", canal.ship(2, 7) + " " + canal.ship(2, 8) + " " + canal.convoy(2, 0), "2 1 2");
        canal.join(4, 2);
        check.same("not by number", Canals.convoy(canal, 4), "2 4");
        canal.join(0, 4);
        check.same("at the end", Canals.convoy(canal, 0), "2 4 0");
        canal.join(1, 3);
        canal.join(2, 1);
        check.same("a whole convoy at the end of another one", Canals.convoy(canal, 2), "3 1 2 4 0");
    }

    private static void longestRow(Check check) {
        String[] lengthArrivalsAndRow = {"6:d2t1,d3t1,d1t1:3", "6:d2t1,d3t1,d2t1:2", "6:d2t1,d3t1,d2t1,d1t1:2",
            "6:d6t1,d1t1:1", "6:d5t1,d1t1:2", "6:d7t1,d1t1:0", "6:d1t1,d9t1:1", "9:d9t1:1", "1:d1t1,d1t1:1", "1:d2t1:0",
            "9:d1t1,d1t1,d1t1,d1t1,d1t1,d1t1,d1t1,d1t1,d1t1:9", "9:d1t1,d1t1,d1t1,d1t1,d1t1,d1t1,d1t1,d1t1,d1t1,d1t1:9"};
        for (String due : lengthArrivalsAndRow) {
            String[] parts = due.split(":");
            LockMaster canal = Canals.with(Canals.plenty(3, parts[0].charAt(0) - '0'), parts[1]);
            for (int s = 1; s < canal.account(1); s++) {
                canal.join(s, 0);
            }
            canal.pass(1);
            check.same("the row of " + due, canal.reach(1, 5), parts[2]);
            check.same("the ships locked of " + due, canal.lock(0, 8), parts[2]);
        }
    }

    private static void rowGoesOthersStay(Check check) {
        LockMaster canal = Canals.with(Canals.plenty(3, 5), "d3t1,d2t1,d6t1,d1t1");
        canal.join(1, 0);
        canal.join(2, 0);
        canal.join(3, 0);
        canal.pass(1);
        check.same("the row is a convoy", Canals.convoy(canal, 1), "0 1");
        check.same("the others are one", Canals.convoy(canal, 3), "2 3");
        check.same("first ships", canal.ship(0, 7) + " " + canal.ship(1, 7) + " " + canal.ship(2, 7) + " "
                + canal.ship(3, 7), "0 0 2 2");
        check.same("locks", canal.ship(0, 5) + " " + canal.ship(1, 5) + " " + canal.ship(2, 5) + " " + canal.ship(3, 5),
                "1 1 0 0");
        canal.pass(40);
        check.same("its first ship is longer than the lock", canal.ship(2, 4) + " " + canal.ship(3, 4), "0 0");
        check.same("the hindrance", canal.hindrance(3), 1);
        canal.part(2);
        canal.pass(1);
        check.same("without it the other one goes", canal.ship(2, 4) + " " + canal.ship(3, 4), "0 1");
    }

    private static void keepTheirTicks(Check check) {
        LockMaster canal = Canals.plenty(2, 5);
        canal.addShip(6, 1, 0, false);
        canal.pass(3);
        canal.addShip(6, 1, 0, false);
        canal.pass(2);
        canal.addShip(6, 1, 0, false);
        canal.join(0, 2);
        canal.join(1, 0);
        check.same("joined", canal.ship(0, 6) + " " + canal.ship(1, 6) + " " + canal.ship(2, 6), "5 2 0");
        canal.pass(1);
        check.same("and on", canal.ship(0, 6) + " " + canal.ship(1, 6) + " " + canal.ship(2, 6), "6 3 1");
        canal.part(2);
        check.same("parted", canal.ship(0, 6) + " " + canal.ship(1, 6) + " " + canal.ship(2, 6), "6 3 1");
        LockMaster staying = Canals.with(Canals.plenty(2, 5), "d5t1,d5t1");
        staying.join(1, 0);
        staying.pass(1);
        check.same("one that stays behind", staying.ship(1, 6), 1);
    }

    private static void oneLocking(Check check) {
        LockMaster canal = Canals.with(Canals.plenty(2, 3), "d1t1,d1t1,d1t1,d1t1");
        for (int s = 1; s < 4; s++) {
            canal.join(s, 0);
        }
        canal.pass(1);
        check.same("a row of three", canal.lock(0, 9) + " " + canal.account(8), "1 1");
        check.same("three ships", canal.lock(0, 8), 3);
        canal.pass(1);
        check.same("a row of one", canal.lock(0, 9) + " " + canal.account(8), "2 2");
        check.same("four ships", canal.lock(0, 8), 4);
    }

    private static void priority(Check check) {
        for (int rank = 0; rank <= 3; rank++) {
            LockMaster canal = Canals.plenty(2, 5);
            canal.addShip(6, 1, rank, rank % 2 == 0);
            int[] ticksAndBonus = {0, 0, 4, 0, 5, 1, 9, 1, 10, 2, 14, 2, 15, 3};
            for (int i = 0; i < ticksAndBonus.length; i += 2) {
                Canals.toTick(canal, ticksAndBonus[i]);
                check.same("rank " + rank + " behind " + ticksAndBonus[i], canal.priority(0),
                        4 * rank + ticksAndBonus[i + 1]);
            }
        }
        LockMaster canal = Canals.with(Canals.plenty(2, 5), "d6t1");
        canal.pass(12);
        Canals.with(canal, "d6t1r1,d6t1r3,d6t1r2");
        canal.join(1, 0);
        canal.join(2, 0);
        canal.join(3, 0);
        check.same("the greatest rank of all, the ticks of the first", canal.priority(1), 14);
        canal.part(0);
        check.same("another first ship", canal.priority(3), 12);
        canal.join(0, 1);
        check.same("the ticks of the last one do not count", canal.priority(0), 12);
    }

    private static void patience(Check check) {
        LockMaster canal = Canals.plenty(2, 5);
        canal.addShip(6, 1, 0, false);
        canal.pass(20);
        check.same("5 at first", canal.set(0, 20), 5);
        check.same("20 ticks by 20", canal.priority(0), 1);
        check.badArgument("21", () -> canal.set(0, 21));
        check.same("20 is the most", canal.set(0, 1), 20);
        check.same("20 ticks by 1", canal.priority(0), 20);
        check.badArgument("0", () -> canal.set(0, 0));
        check.badArgument("-1", () -> canal.set(0, -1));
        check.same("1 is the least", canal.set(0, 19), 1);
        check.same("20 ticks by 19", canal.priority(0), 1);
        canal.undo();
        canal.undo();
        check.same("undone", canal.priority(0), 1);
    }

    private static void orderOfConvoys(Check check) {
        LockMaster canal = Canals.with(Canals.plenty(2, 5), "u6t1,d6t1r1,u6t1r1,d6t1,d6t1r2,u6t1r2");
        check.same("in both directions", Canals.order(canal, 0), "4 5 1 2 0 3");
        canal.join(3, 4);
        canal.part(4);
        canal.join(4, 3);
        check.same("the first ship 3 counts, not the 4", Canals.order(canal, 0), "3 5 1 2 0");
        canal.join(1, 3);
        canal.part(3);
        check.same("the first ship 4 counts, not the 1", Canals.order(canal, 0), "4 5 2 0 3");
        canal.pass(20);
        Canals.with(canal, "d6t1r2,u6t1r1");
        check.same("with a bonus of 4", Canals.order(canal, 0), "4 5 2 6 0 3 7");
        canal.set(0, 2);
        check.same("with a bonus of 10", Canals.order(canal, 0), "4 5 2 0 3 6 7");
        canal.set(0, 20);
        check.same("with a bonus of 1", Canals.order(canal, 0), "4 5 6 2 7 0 3");
    }
}
