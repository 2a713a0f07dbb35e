/** The sentences of the promises 6 to 9: addShip, append, arrive and faultPosition. */
final class ArrivalPromises {
    private ArrivalPromises() {
    }

    static void tell(Sentences sentences) {
        sentences.plain("6", "- `size`: the size - `draught`: the draught - `rank`: the rank - `goesUp`: true if it goes up");
        sentences.of("6", "Makes a ship.", ArrivalPromises::makesAShip);
        sentences.of("6", "Returns the number of the ship.", ArrivalPromises::numberOfTheShip);
        sentences.of("6", "Throws `IllegalArgumentException` if a number is out of range", ArrivalPromises::outOfRange);
        sentences.of("6", "Throws `UnsupportedOperationException` if it is refused for reason 4 or 5; the reason is kept for "
                + "refusal", ArrivalPromises::shipRefused);

        sentences.plain("7", "Appends a character to the text buffer.");
        sentences.of("7", "- `c`: the character, any one", ArrivalPromises::anyCharacter);
        sentences.of("7", "Throws `IllegalStateException` if the buffer contains 50 characters",
                ArrivalPromises::fullBuffer);

        sentences.of("8", "Reads the text buffer as a text of arrivals and makes the ships in their order, all or none of "
                + "them.", ArrivalPromises::allOrNone);
        sentences.of("8", "The buffer is emptied, also if an exception is thrown.", ArrivalPromises::bufferIsEmptied);
        sentences.of("8", "Returns the number of arrivals.", ArrivalPromises::numberOfArrivals);
        sentences.of("8", "Throws `IllegalArgumentException` if the text has a fault", ArrivalPromises::textWithFault);
        sentences.of("8", "Throws `UnsupportedOperationException` if a ship is refused for reason 4 or 5; the reason is "
                + "kept for refusal", ArrivalPromises::arrivalRefused);

        sentences.of("9", "Returns the fault position of the text of the latest call of arrive.",
                ArrivalPromises::latestFault);
        sentences.of("9", "Returns the fault position, or -1 if the text had no fault or arrive has not been called.",
                ArrivalPromises::noFault);
    }

    private static void makesAShip(Check check) {
        LockMaster canal = Canals.plenty(3, 9);
        canal.pass(3);
        canal.addShip(2, 30, 1, false);
        canal.addShip(9, 99, 3, true);
        int[][] due = {{2, 30, 1, 0, 0, 0, 0, 0, 1, -1}, {9, 99, 3, 1, 2, 1, 0, 1, 1, -1}};
        for (int s = 0; s <= 1; s++) {
            for (int what = 0; what <= 9; what++) {
                check.same("ship " + s + ", number " + what, canal.ship(s, what), due[s][what]);
            }
        }
        check.same("two convoys wait", canal.account(1) + " " + canal.account(3), "2 2");
    }

    private static void numberOfTheShip(Check check) {
        LockMaster canal = Canals.plenty(2, 9);
        check.same("the first", canal.addShip(1, 1, 0, false), 0);
        canal.pass(1);
        check.same("behind one that has left", canal.addShip(1, 1, 0, false), 1);
        canal.undo();
        check.same("behind one that is undone", canal.addShip(1, 1, 0, true), 1);
        Canals.with(canal, "d1t1,d1t1");
        check.same("behind two that arrived", canal.addShip(1, 1, 0, true), 4);
        for (int s = 5; s <= 15; s++) {
            check.same("the next", canal.addShip(1, 1, 0, true), s);
        }
    }

    private static void outOfRange(Check check) {
        LockMaster canal = Canals.plenty(2, 9);
        int[][] wrong = {{0, 1, 0}, {10, 1, 0}, {-1, 1, 0}, {1, 0, 0}, {1, 100, 0}, {1, -1, 0}, {1, 1, -1}, {1, 1, 4},
            {Integer.MAX_VALUE, 1, 0}, {1, Integer.MAX_VALUE, 0}, {1, 1, Integer.MAX_VALUE}, {Integer.MIN_VALUE, 1, 0},
            {1, Integer.MIN_VALUE, 0}, {1, 1, Integer.MIN_VALUE}};
        for (int[] w : wrong) {
            check.badArgument(w[0] + " " + w[1] + " " + w[2], () -> canal.addShip(w[0], w[1], w[2], false));
        }
        check.same("no ship", canal.account(1), 0);
        check.noElement("and no refusal", canal::refusal);
        check.same("the least", canal.addShip(1, 1, 0, false), 0);
        check.same("the greatest", canal.addShip(9, 99, 3, false), 1);
    }

    private static void shipRefused(Check check) {
        LockMaster canal = new LockMaster();
        check.refused("no reach", canal, () -> canal.addShip(1, 1, 0, false), 5);
        canal.addReach(9, 90, 9, 4, 0);
        check.refused("one reach", canal, () -> canal.addShip(1, 1, 0, true), 5);
        canal.addReach(9, 90, 9, 4, 0);
        for (int s = 0; s < 16; s++) {
            canal.addShip(1, 1, 0, false);
        }
        check.refused("16 ships", canal, () -> canal.addShip(1, 1, 0, false), 4);
        check.same("no 17th", canal.account(1), 16);
    }

    private static void anyCharacter(Check check) {
        LockMaster canal = Canals.plenty(2, 9);
        for (int c : new int[] {0, 1, 9, 10, 32, 127, 128, 255, 256, 0x7fff, 0x8000, 0xd800, 0xdfff, 0xfffe, 0xffff}) {
            check.same("character " + c, Check.answer(() -> canal.append((char) c)), "done");
            check.badArgument("which begins no text", canal::arrive);
            check.same("the fault", canal.faultPosition(), 0);
        }
        canal.append('u');
        canal.append((char) ('1' + 256));
        check.badArgument("no digit", canal::arrive);
        check.same("its place", canal.faultPosition(), 1);
    }

    private static void fullBuffer(Check check) {
        LockMaster canal = Canals.plenty(2, 9);
        Check.type(canal, "d1t1,d1t1,d1t1,d1t1,d1t1,d1t1,d1t1,d1t1,d1t1,d1t");
        check.same("the 49th", Check.answer(() -> canal.append('5')), "done");
        check.same("the 50th", Check.answer(() -> canal.append('6')), "done");
        for (char c : new char[] {'7', ',', 0, 0xffff}) {
            check.same("a 51st", Check.answer(() -> canal.append(c)), "!IllegalStateException");
        }
        check.same("the 50 were kept", canal.arrive(), 10);
        check.same("and no other one", canal.ship(9, 1), 56);
        check.same("there is room again", Check.answer(() -> canal.append('d')), "done");
        Check.type(canal, "xxxxxxxxxxxxxxxxxxxxxxxxxxxxxxxxxxxxxxxxxxxxxxxxx");
        check.same("a 51st again", Check.answer(() -> canal.append('x')), "!IllegalStateException");
        check.badArgument("a faulty text", canal::arrive);
        check.same("there is room again", Check.answer(() -> canal.append('d')), "done");
    }

    private static void allOrNone(Check check) {
        LockMaster canal = Canals.with(Canals.plenty(3, 9), "u3t4r1,d2t5,u1t99r3");
        check.same("in their order", canal.ship(0, 0) + " " + canal.ship(1, 0) + " " + canal.ship(2, 0), "3 2 1");
        check.same("where they begin", canal.ship(0, 4) + " " + canal.ship(1, 4) + " " + canal.ship(2, 4), "2 0 2");
        Check.type(canal, "d1t1,d1t1,d1t1,d1t0");
        check.badArgument("a fault at the end", canal::arrive);
        check.same("none", canal.account(1), 3);
        for (int s = 3; s < 12; s++) {
            canal.addShip(1, 1, 0, false);
        }
        Check.type(canal, "d1t1,d1t1,d1t1,d1t1,d1t1");
        check.refused("the last one is the 17th", canal, canal::arrive, 4);
        check.same("none", canal.account(1), 12);
        Check.type(canal, "d1t1,d1t1,d1t1,d1t2");
        check.same("the last one is the 16th", canal.arrive(), 4);
        check.same("all", canal.account(1) + " " + canal.ship(15, 1), "16 2");
        canal.undo();
        check.same("one change", canal.account(1), 12);
    }

    private static void bufferIsEmptied(Check check) {
        LockMaster canal = Canals.with(Canals.plenty(2, 9), "d1t1,d1t1");
        check.badArgument("behind a good text", canal::arrive);
        check.same("it was empty", canal.faultPosition(), 0);
        Check.type(canal, "u2t2");
        check.same("only the new one", canal.arrive() + " " + canal.ship(2, 3), "1 1");
        Check.type(canal, "d1t1,x");
        check.badArgument("a fault", canal::arrive);
        Check.type(canal, "u2t2");
        check.same("behind a fault", canal.arrive(), 1);
        LockMaster refused = new LockMaster();
        Check.type(refused, "d1t1");
        check.refused("no reaches", refused, refused::arrive, 5);
        check.badArgument("behind a refusal", refused::arrive);
        check.same("it was empty", refused.faultPosition(), 0);
    }

    private static void numberOfArrivals(Check check) {
        StringBuilder text = new StringBuilder();
        for (int arrivals = 1; arrivals <= 10; arrivals++) {
            text.append(arrivals == 1 ? "" : ",").append("u1t1");
            LockMaster canal = Canals.plenty(2, 9);
            canal.addShip(1, 1, 0, false);
            Check.type(canal, text.toString());
            check.same("arrivals", canal.arrive(), arrivals);
            check.same("ships", canal.account(1), 1 + arrivals);
        }
    }

    private static void textWithFault(Check check) {
        String[] texts = {"", "d", "d1", "d1t", "d1t1,", "d1t1r", "d0t1", "d1t0", "d1t1r4", "d10t1", "d1t100", "d1t1;", "x"};
        for (String text : texts) {
            LockMaster canal = Canals.plenty(2, 9);
            Check.type(canal, text);
            check.badArgument("the text \"" + text + "\"", canal::arrive);
            check.noElement("is not refused", canal::refusal);
            check.same("no ship", canal.account(1), 0);
            check.same("no change", canal.undo(), 1);
        }
    }

    private static void arrivalRefused(Check check) {
        LockMaster canal = new LockMaster();
        for (int reaches = 0; reaches <= 1; reaches++) {
            Check.type(canal, "d1t1,u1t1");
            check.refused(reaches + " reaches", canal, canal::arrive, 5);
            canal.addReach(9, 90, 9, 4, 0);
        }
        Canals.with(canal, "d1t1,d1t1,d1t1,d1t1,d1t1,d1t1,d1t1,d1t1,d1t1,d1t1");
        Check.type(canal, "d1t1,d1t1,d1t1,d1t1,d1t1,d1t1,d1t1");
        check.refused("17 ships", canal, canal::arrive, 4);
        Check.type(canal, "d1t1,d1t1,d1t1,d1t1,d1t1,d1t1");
        check.same("16 ships", canal.arrive(), 6);
        Check.type(canal, "d1t1");
        check.refused("one more", canal, canal::arrive, 4);
        check.same("it had no fault", canal.faultPosition(), -1);
    }

    private static void latestFault(Check check) {
        LockMaster canal = Canals.plenty(2, 9);
        Check.type(canal, "d1t1rx");
        check.badArgument("a fault", canal::arrive);
        check.same("its position", canal.faultPosition(), 5);
        Check.type(canal, "d9");
        canal.pass(1);
        check.same("until the next call of arrive", canal.faultPosition(), 5);
        check.badArgument("another one", canal::arrive);
        check.same("its position", canal.faultPosition(), 2);
        check.badArgument("an empty text", canal::arrive);
        check.same("its position", canal.faultPosition(), 0);
    }

    private static void noFault(Check check) {
        LockMaster canal = Canals.plenty(2, 9);
        check.same("arrive has not been called", canal.faultPosition(), -1);
        canal.append('x');
        check.same("not even with a fault in the buffer", canal.faultPosition(), -1);
        check.badArgument("a fault", canal::arrive);
        Canals.with(canal, "d1t1");
        check.same("behind a good text", canal.faultPosition(), -1);
        check.badArgument("a fault", canal::arrive);
        for (int s = 1; s < 16; s++) {
            canal.addShip(1, 1, 0, true);
        }
        Check.type(canal, "d1t1");
        check.refused("a good text that is refused", canal, canal::arrive, 4);
        check.same("it had no fault", canal.faultPosition(), -1);
    }
}
