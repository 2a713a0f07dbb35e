/** The sentences of the promises 10 to 17: join, part, refusal, ship, convoy, waiting, priority and hindrance. */
final class ConvoyPromises {
    private ConvoyPromises() {
    }

    static void tell(Sentences sentences) {
        sentences.of("10", "Joins the convoy of a ship behind that of another one.", ConvoyPromises::joinsBehind);
        sentences.plain("10", "- `ship`: a ship of the convoy that comes behind - `other`: a ship of the other convoy");
        sentences.of("10", "Returns the number of ships in the convoy then.", ConvoyPromises::shipsThen);
        sentences.of("10", "Throws `UnsupportedOperationException` if it is refused for reason 1, 2 or 3; the reason is kept "
                + "for refusal", ConvoyPromises::joinRefused);

        sentences.of("11", "Parts a ship from its convoy; it is alone then, and the others stay in their order.",
                ConvoyPromises::parts);
        sentences.plain("11", "- `ship`: the ship");
        sentences.of("11", "Returns the number of ships that stay in the convoy.", ConvoyPromises::shipsThatStay);
        sentences.of("11", "Throws `UnsupportedOperationException` if it is refused for reason 1 or 6; the reason is kept "
                + "for refusal", ConvoyPromises::partRefused);

        sentences.of("12", "Returns the reason for which the latest call that was refused was refused.",
                ConvoyPromises::latestReason);
        sentences.of("12", "Returns the reason, 1 to 6.", ConvoyPromises::allReasons);
        sentences.of("12", "Throws `NoSuchElementException` if none was refused", ConvoyPromises::noneRefused);

        sentences.plain("13", "Returns a number of a ship. - `ship`: the ship");
        sentences.of("13", "- `what`: 0 for its size, 1 for its draught, 2 for its rank, 3 for 1 if it goes up and 0 if it "
                + "goes down, 4 for its reach, -1 if it has left, 5 for the lock at which it waits, -1 if it has left, 6 "
                + "for the ticks that it has waited at this lock, 0 if it has left, 7 for the first ship of its convoy, 8 "
                + "for the number of ships in its convoy, 9 for the tick number at which it left, -1 if it has not",
                ConvoyPromises::numbersOfShip);
        sentences.of("13", "Returns the number; of a ship that has left, 7 is itself and 8 is 1.",
                ConvoyPromises::convoyOfOneThatLeft);
        sentences.of("13", "Throws `IndexOutOfBoundsException` if there is no such ship", check ->
                noSuchShip(check, (canal, ship) -> canal.ship(ship, 0)));
        sentences.of("13", "Throws `IllegalArgumentException` if what is not from 0 to 9", ConvoyPromises::whatOfShip);

        sentences.plain("14", "Returns a ship of a convoy. - `ship`: the ship");
        sentences.of("14", "- `index`: the index in the convoy of the ship, from 0", ConvoyPromises::indexInConvoy);
        sentences.of("14", "Returns the ship at this index.", ConvoyPromises::shipAtIndex);
        sentences.of("14", "Throws `IndexOutOfBoundsException` if there is no such ship", check ->
                noSuchShip(check, (canal, ship) -> canal.convoy(ship, 0)));
        sentences.of("14", "Throws `NoSuchElementException` if there is no such index", ConvoyPromises::noIndexInConvoy);

        sentences.plain("15", "Returns the first ship of a convoy that waits at a lock. - `lock`: the lock",
                "Returns the ship.");
        sentences.of("15", "- `index`: the index in the order of priorities, from 0", ConvoyPromises::indexInOrder);
        sentences.of("15", "Throws `IndexOutOfBoundsException` if there is no such lock", ConvoyPromises::waitingAtNoLock);
        sentences.of("15", "Throws `NoSuchElementException` if there is no such index", ConvoyPromises::noIndexInOrder);

        sentences.plain("16", "- `ship`: the ship", "Returns the priority.");
        sentences.of("16", "Returns the priority of the convoy of a ship.", ConvoyPromises::priority);
        sentences.of("16", "Throws `IndexOutOfBoundsException` if there is no such ship", check ->
                noSuchShip(check, (canal, ship) -> canal.priority(ship)));
        sentences.of("16", "Throws `IllegalStateException` if it has left", check ->
                hasLeft(check, (canal, ship) -> canal.priority(ship)));

        sentences.plain("17", "- `ship`: the ship");
        sentences.of("17", "Returns why the convoy of a ship could not be locked now.", ConvoyPromises::lockedNow);
        sentences.of("17", "Returns 0 if it could be, 1 if its row that would go has no ship, 2 for the draught, 3 for the "
                + "drought, 4 if the chamber cannot be made ready or then not be filled; the first of these that applies.",
                ConvoyPromises::firstHindrance);
        sentences.of("17", "4 if the chamber cannot be made ready or then not be filled;", ConvoyPromises::noChamber);
        sentences.of("17", "Throws `IndexOutOfBoundsException` if there is no such ship", check ->
                noSuchShip(check, (canal, ship) -> canal.hindrance(ship)));
        sentences.of("17", "Throws `IllegalStateException` if it has left", check ->
                hasLeft(check, (canal, ship) -> canal.hindrance(ship)));
    }

    /** A call that asks of a ship. */
    private interface Question {
        int ask(LockMaster canal, int ship);
    }

    private static void noSuchShip(Check check, Question question) {
        LockMaster canal = Canals.plenty(2, 9);
        for (int ships = 0; ships <= 16; ships++) {
            for (int ship : new int[] {Integer.MIN_VALUE, -1, ships, ships + 1, Integer.MAX_VALUE}) {
                check.badIndex("ship " + ship + " of " + ships, () -> question.ask(canal, ship));
            }
            if (ships < 16) {
                canal.addShip(1, 1, 0, false);
                question.ask(canal, ships);
            }
        }
        canal.undo();
        check.badIndex("one that is undone", () -> question.ask(canal, 15));
        question.ask(canal, 14);
    }

    private static void hasLeft(Check check, Question question) {
        LockMaster canal = Canals.with(Canals.plenty(3, 9), "d9t1,u9t1");
        canal.pass(1);
        check.same("they are on the way", canal.account(2), 0);
        question.ask(canal, 0);
        question.ask(canal, 1);
        canal.pass(1);
        check.badState("down", () -> question.ask(canal, 0));
        check.badState("up", () -> question.ask(canal, 1));
        canal.undo();
        check.same("undone", Check.answer(() -> question.ask(canal, 0)), "0");
    }

    private static void joinsBehind(Check check) {
        LockMaster canal = Canals.with(Canals.plenty(2, 9), "d1t1,d1t1,d1t1,d1t1,d1t1,d1t1");
        canal.join(0, 5);
        check.same("one behind one", Canals.convoy(canal, 0), "5 0");
        canal.join(4, 3);
        canal.join(4, 0);
        check.same("a convoy behind a convoy, told by its last ships", Canals.convoy(canal, 3), "5 0 3 4");
        canal.join(0, 2);
        check.same("a convoy behind one", Canals.convoy(canal, 5), "2 5 0 3 4");
        canal.join(1, 0);
        check.same("one behind a convoy, told by a ship in its middle", Canals.convoy(canal, 1), "2 5 0 3 4 1");
        for (int s = 0; s <= 5; s++) {
            check.same("the first ship", canal.ship(s, 7) + " " + canal.ship(s, 8), "2 6");
        }
        check.same("one convoy waits", canal.lock(0, 7) + " " + canal.account(3), "1 1");
    }

    private static void shipsThen(Check check) {
        LockMaster canal = Canals.plenty(2, 9);
        for (int s = 0; s < 16; s++) {
            canal.addShip(1, 1, 0, false);
        }
        for (int s = 1; s < 8; s++) {
            check.same("then", canal.join(s, 0), s + 1);
            check.same("then", canal.join(s + 8, 8), s + 1);
        }
        check.same("all", canal.join(12, 3), 16);
    }

    private static void joinRefused(Check check) {
        LockMaster canal = Canals.with(Canals.plenty(3, 9), "d1t1,d1t1,u1t1");
        canal.join(1, 0);
        String before = Check.portrait(canal);
        check.refused("no such ship", canal, () -> canal.join(3, 0), 1);
        check.refused("no such other one", canal, () -> canal.join(0, 3), 1);
        check.refused("the same ship", canal, () -> canal.join(2, 2), 2);
        check.refused("the same convoy", canal, () -> canal.join(0, 1), 2);
        check.refused("the same convoy", canal, () -> canal.join(1, 0), 2);
        check.refused("another lock", canal, () -> canal.join(2, 1), 3);
        check.same("all as it was", Check.portrait(canal), before.replace("refusal !NoSuchElementException", "refusal 3"));
    }

    private static void parts(Check check) {
        for (int parted = 0; parted <= 3; parted++) {
            LockMaster canal = Canals.with(Canals.plenty(2, 9), "d1t1,d1t1,d1t1,d1t1");
            canal.join(1, 3);
            canal.join(0, 3);
            canal.join(2, 3);
            check.same("joined", Canals.convoy(canal, 0), "3 1 0 2");
            canal.part(parted);
            check.same("alone", Canals.convoy(canal, parted), parted);
            String others = "3 1 0 2".replace(" " + parted, "").replace(parted + " ", "");
            check.same("the others", Canals.convoy(canal, parted == 0 ? 1 : 0), others);
            check.same("the first of the others", canal.ship(parted == 2 ? 0 : 2, 7), parted == 3 ? 1 : 3);
            check.same("two convoys", canal.lock(0, 7), 2);
        }
        LockMaster two = Canals.with(Canals.plenty(2, 9), "d1t1,d1t1");
        two.join(1, 0);
        two.part(0);
        check.same("both are alone", Canals.convoy(two, 0) + ", " + Canals.convoy(two, 1), "0, 1");
    }

    private static void shipsThatStay(Check check) {
        LockMaster canal = Canals.plenty(2, 9);
        for (int s = 0; s < 16; s++) {
            canal.addShip(1, 1, 0, false);
        }
        for (int s = 1; s < 16; s++) {
            canal.join(s, 0);
        }
        for (int s = 0; s < 15; s++) {
            check.same("stay", canal.part(s), 15 - s);
        }
        check.refused("the last one", canal, () -> canal.part(15), 6);
    }

    private static void partRefused(Check check) {
        LockMaster canal = Canals.with(Canals.plenty(2, 9), "d1t1,d1t1,d1t1");
        canal.join(1, 0);
        check.refused("no such ship", canal, () -> canal.part(3), 1);
        check.refused("alone", canal, () -> canal.part(2), 6);
        check.refused("no such ship", canal, () -> canal.part(-1), 1);
        check.same("all as it was", canal.lock(0, 7) + " " + canal.undo() + " " + canal.lock(0, 7), "2 3 3");
    }

    private static void latestReason(Check check) {
        LockMaster canal = Canals.with(Canals.plenty(2, 9), "d1t1,d1t1");
        check.refused("alone", canal, () -> canal.part(0), 6);
        check.refused("the same ship", canal, () -> canal.join(0, 0), 2);
        canal.join(1, 0);
        canal.pass(1);
        canal.undo();
        check.same("successful calls leave it", canal.refusal(), 2);
        check.badArgument("so do others that throw", () -> canal.addShip(0, 1, 0, false));
        check.badArgument("so do others that throw", canal::arrive);
        check.badIndex("so do others that throw", () -> canal.ship(2, 0));
        check.same("the latest", canal.refusal() + " " + canal.refusal(), "2 2");
        check.refused("no such ship", canal, () -> canal.part(2), 1);
        check.same("the latest", canal.refusal(), 1);
    }

    private static void allReasons(Check check) {
        LockMaster canal = new LockMaster();
        check.refused("few reaches", canal, () -> canal.addShip(1, 1, 0, false), 5);
        canal.addReach(9, 90, 9, 4, 0);
        canal.addReach(9, 90, 9, 4, 0);
        check.refused("no such ship", canal, () -> canal.join(0, 0), 1);
        for (int s = 0; s < 16; s++) {
            canal.addShip(1, 1, 0, s == 0);
        }
        check.refused("the same ship", canal, () -> canal.join(15, 15), 2);
        check.refused("another direction", canal, () -> canal.join(15, 0), 3);
        check.refused("16 ships", canal, () -> canal.addShip(1, 1, 0, false), 4);
        check.refused("alone", canal, () -> canal.part(15), 6);
    }

    private static void noneRefused(Check check) {
        LockMaster canal = new LockMaster();
        check.noElement("a new object", canal::refusal);
        check.badArgument("thrown, but not refused", () -> canal.addReach(0, 1, 1, 1, 1));
        check.badArgument("thrown, but not refused", () -> canal.addShip(0, 1, 0, true));
        check.badArgument("thrown, but not refused", canal::arrive);
        check.noElement("none was refused", canal::refusal);
        check.refused("one", canal, () -> canal.part(0), 1);
    }

    private static String numbers(LockMaster canal, int ship) {
        StringBuilder text = new StringBuilder();
        for (int what = 0; what <= 9; what++) {
            text.append(canal.ship(ship, what)).append(' ');
        }
        return text.toString();
    }

    private static void numbersOfShip(Check check) {
        LockMaster canal = Canals.plenty(3, 5);
        canal.pass(2);
        Canals.with(canal, "d2t30r1,d3t40r2,u4t50r3,u9t60");
        canal.join(0, 1);
        check.same("0 at first", numbers(canal, 0), "2 30 1 0 0 0 0 1 2 -1 ");
        check.same("1 at first", numbers(canal, 1), "3 40 2 0 0 0 0 1 2 -1 ");
        check.same("2 at first", numbers(canal, 2), "4 50 3 1 2 1 0 2 1 -1 ");
        check.same("3 at first", numbers(canal, 3), "9 60 0 1 2 1 0 3 1 -1 ");
        canal.pass(1);
        check.same("0 was locked", numbers(canal, 0), "2 30 1 0 1 1 0 1 2 -1 ");
        check.same("2 was locked", numbers(canal, 2), "4 50 3 1 1 0 0 2 1 -1 ");
        check.same("3 waits", numbers(canal, 3), "9 60 0 1 2 1 1 3 1 -1 ");
        canal.pass(1);
        check.same("0 left in the tick with the number 3", numbers(canal, 0), "2 30 1 0 -1 -1 0 0 1 3 ");
        check.same("1 left with it", numbers(canal, 1), "3 40 2 0 -1 -1 0 1 1 3 ");
        check.same("2 left upwards", numbers(canal, 2), "4 50 3 1 -1 -1 0 2 1 3 ");
        canal.pass(40);
        check.same("what 0 says of its leaving stays", numbers(canal, 0), "2 30 1 0 -1 -1 0 0 1 3 ");
        check.same("3 still waits", numbers(canal, 3), "9 60 0 1 2 1 42 3 1 -1 ");
        LockMaster atOnce = Canals.with(Canals.plenty(2, 5), "d1t1");
        atOnce.pass(1);
        check.same("in the first tick, with the number 0", atOnce.ship(0, 9), 0);
    }

    private static void convoyOfOneThatLeft(Check check) {
        LockMaster canal = Canals.with(Canals.plenty(2, 9), "d1t1,d1t1,d1t1,d9t1");
        canal.join(0, 2);
        canal.join(1, 2);
        canal.join(3, 2);
        check.same("three leave", canal.pass(1), 3);
        for (int s = 0; s <= 2; s++) {
            check.same("ship " + s, canal.ship(s, 7) + " " + canal.ship(s, 8), s + " 1");
            int ship = s;
            check.same("its convoy", canal.convoy(s, 0), s);
            check.noElement("and no other one in it", () -> canal.convoy(ship, 1));
        }
        check.same("the one that stays", canal.ship(3, 7) + " " + canal.ship(3, 8), "3 1");
    }

    private static void whatOfShip(Check check) {
        LockMaster canal = Canals.with(Canals.plenty(2, 9), "d1t1");
        for (int what : new int[] {Integer.MIN_VALUE, -1, 10, 11, Integer.MAX_VALUE}) {
            check.badArgument("what " + what, () -> canal.ship(0, what));
        }
        check.same("0 and 9", canal.ship(0, 0) + " " + canal.ship(0, 9), "1 -1");
    }

    private static void indexInConvoy(Check check) {
        LockMaster canal = Canals.with(Canals.plenty(2, 9), "d1t1,d1t1,d1t1");
        canal.join(0, 2);
        canal.join(1, 2);
        for (int s = 0; s <= 2; s++) {
            check.same("from 0, asked by " + s, canal.convoy(s, 0) + " " + canal.convoy(s, 1) + " " + canal.convoy(s, 2),
                    "2 0 1");
        }
    }

    private static void shipAtIndex(Check check) {
        LockMaster canal = Canals.plenty(2, 9);
        for (int s = 0; s < 16; s++) {
            canal.addShip(1, 1, 0, false);
        }
        check.same("alone", canal.convoy(15, 0), 15);
        for (int s = 14; s >= 0; s--) {
            canal.join(s, 15);
        }
        for (int i = 0; i < 16; i++) {
            check.same("index " + i, canal.convoy(7, i), 15 - i);
        }
    }

    private static void noIndexInConvoy(Check check) {
        LockMaster canal = Canals.with(Canals.plenty(2, 9), "d1t1,d1t1,d1t1");
        canal.join(1, 0);
        for (int s = 0; s <= 2; s++) {
            int ship = s;
            int ships = s == 2 ? 1 : 2;
            for (int index : new int[] {Integer.MIN_VALUE, -1, ships, ships + 1, 16, Integer.MAX_VALUE}) {
                check.noElement("index " + index + " of " + ships, () -> canal.convoy(ship, index));
            }
        }
        for (int i = 3; i < 16; i++) {
            canal.addShip(1, 1, 0, false);
        }
        for (int s = 2; s < 16; s++) {
            canal.join(s, 0);
        }
        check.same("the last of 16", canal.convoy(0, 15), 15);
        check.noElement("behind it", () -> canal.convoy(0, 16));
    }

    private static void indexInOrder(Check check) {
        LockMaster canal = Canals.plenty(2, 5);
        for (int s = 0; s < 16; s++) {
            canal.addShip(6, 1, s / 4, s % 2 == 0);
        }
        String due = "12 13 14 15 8 9 10 11 4 5 6 7 0 1 2 3";
        check.same("16 convoys", Canals.order(canal, 0), due);
        canal.pass(5);
        check.same("the same bonus for all", Canals.order(canal, 0), due);
        canal.join(12, 0);
        check.same("the first ship of each", Canals.order(canal, 0), "0 13 14 15 8 9 10 11 4 5 6 7 1 2 3");
    }

    private static void waitingAtNoLock(Check check) {
        LockMaster none = new LockMaster();
        check.badIndex("no reach", () -> none.waiting(0, 0));
        none.addReach(1, 10, 0, 0, 0);
        check.badIndex("one reach", () -> none.waiting(0, 0));
        LockMaster canal = Canals.with(Canals.plenty(3, 9), "d1t1,u1t1");
        for (int lock : new int[] {Integer.MIN_VALUE, -1, 2, 3, 4, Integer.MAX_VALUE}) {
            check.badIndex("lock " + lock, () -> canal.waiting(lock, 0));
        }
        check.same("lock 0 and 1", canal.waiting(0, 0) + " " + canal.waiting(1, 0), "0 1");
        canal.pass(2);
        check.badIndex("those that have left wait at no lock -1", () -> canal.waiting(-1, 0));
    }

    private static void noIndexInOrder(Check check) {
        LockMaster canal = Canals.plenty(3, 9);
        check.noElement("nobody waits", () -> canal.waiting(0, 0));
        Canals.with(canal, "d1t1,d1t1,d1t1");
        canal.join(2, 1);
        for (int index : new int[] {Integer.MIN_VALUE, -1, 2, 3, 16, Integer.MAX_VALUE}) {
            check.noElement("index " + index, () -> canal.waiting(0, index));
        }
        check.same("0 and 1", canal.waiting(0, 0) + " " + canal.waiting(0, 1), "0 1");
        check.noElement("nobody at the other lock", () -> canal.waiting(1, 0));
        canal.pass(4);
        check.noElement("nobody waits any more", () -> canal.waiting(0, 0));
        check.noElement("nor here", () -> canal.waiting(1, 0));
    }

    private static void priority(Check check) {
        LockMaster canal = Canals.with(Canals.plenty(2, 5), "d6t1,d6t1r3,d6t1r1");
        check.same("the least and the greatest at once", canal.priority(0) + " " + canal.priority(1), "0 12");
        canal.join(1, 2);
        check.same("of its convoy, for each ship of it", canal.priority(1) + " " + canal.priority(2), "12 12");
        canal.part(1);
        check.same("of its own again", canal.priority(1) + " " + canal.priority(2), "12 4");
        canal.set(0, 1);
        Canals.toTick(canal, 500);
        check.same("with the longest time", canal.priority(0) + " " + canal.priority(1), "500 512");
    }

    private static void lockedNow(Check check) {
        LockMaster canal = Canals.with(Canals.dried(5, 9), "d2t1,d1t17,d5t18,d5t1");
        canal.join(2, 1);
        canal.join(3, 1);
        check.same("for each ship of the convoy", canal.hindrance(1) + " " + canal.hindrance(2) + " " + canal.hindrance(3),
                "0 0 0");
        check.same("though another one waits ahead of it or not", canal.hindrance(4), 0);
        String before = Check.portrait(canal);
        canal.hindrance(1);
        check.same("to ask changes nothing", Check.portrait(canal), before);
        canal.part(1);
        check.same("now: the row is too short", canal.hindrance(1), 3);
        check.same("and its others", canal.hindrance(2) + " " + canal.hindrance(3), "3 3");
    }

    private static void firstHindrance(Check check) {
        LockMaster canal = Canals.with(Canals.dried(5, 40), "d6t99,d1t11,d1t10,d5t10r3,d5t9r3");
        check.same("40 of 80 are left", canal.reach(0, 3) + " " + canal.reach(0, 4), "10 2");
        check.same("1 ahead of 2 and 3", canal.hindrance(1), 1);
        check.same("2 ahead of 3", canal.hindrance(2), 2);
        check.same("3", canal.hindrance(3), 3);
        check.same("0", canal.hindrance(4), 0);
        canal.pass(1);
        check.same("ship 4 left, and no water is there", canal.ship(4, 4) + " " + canal.reach(0, 2), "-1 0");
        check.same("2 ahead of 4", canal.hindrance(5), 2);
        LockMaster dry = Canals.with(Canals.dried(5, 41), "d5t1,u5t1,d5t1r3,u5t1r3");
        check.same("39 of 80 are left", dry.reach(0, 2), 39);
        check.same("3 ahead of 4", dry.hindrance(1) + " " + dry.hindrance(2), "3 3");
        check.same("4", dry.hindrance(3) + " " + dry.hindrance(4), "4 4");
    }

    private static void noChamber(Check check) {
        for (int chamber = 19; chamber <= 21; chamber++) {
            for (int up = 0; up <= 1; up++) {
                LockMaster canal = Canals.narrow(5, chamber, 3);
                canal.addShip(5, 1, 3, up == 1);
                check.same("empty basins, " + chamber + " of 20", canal.hindrance(0), chamber <= 20 ? 0 : 4);
            }
        }
        for (int basins = 0; basins <= 3; basins++) {
            LockMaster full = Canals.with(Canals.narrow(5, 12, basins), "u5t1");
            full.pass(1);
            Canals.with(full, "u5t1r3,d5t1r3");
            check.same("full, 8 above", Canals.water(full), "8 (1 0) 20");
            check.same("up, emptied and filled with " + basins + " basins", full.hindrance(1), 12 - 3 * basins <= 8 ? 0 : 4);
            check.same("down, only emptied", full.hindrance(2), 0);
        }
        LockMaster exact = Canals.with(Canals.levels(20, 20, 5, 16, 3), "u5t1");
        exact.pass(1);
        Canals.with(exact, "u5t1r3");
        check.same("full, 4 above, 12 for the basins", Canals.water(exact) + " " + exact.hindrance(1), "4 (1 0) 20 0");
        LockMaster lacking = Canals.with(Canals.levels(19, 20, 5, 16, 3), "u5t1");
        lacking.pass(1);
        Canals.with(lacking, "u5t1r3");
        check.same("full, 3 above, 12 for the basins", Canals.water(lacking) + " " + lacking.hindrance(1), "3 (1 0) 20 4");
    }
}
