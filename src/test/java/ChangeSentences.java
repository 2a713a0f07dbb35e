/** The sentences under "Reasons", "Changes" and "Exceptions". */
final class ChangeSentences {
    private ChangeSentences() {
    }

    static void tell(Sentences sentences) {
        sentences.plain("Terms", "Reasons.", "Changes.", "Exceptions.");
        sentences.of("Terms", "Something is refused for the first of these reasons that applies:",
                ChangeSentences::firstReason);
        sentences.of("Terms", "1, there is no such ship;", ChangeSentences::noSuchShip);
        sentences.of("Terms", "2, both are the same ship or in the same convoy;", ChangeSentences::sameConvoy);
        sentences.of("Terms", "3, they do not wait at the same lock in the same direction;",
                ChangeSentences::notTogether);
        sentences.of("Terms", "4, 16 ships were made;", ChangeSentences::sixteenShips);
        sentences.of("Terms", "5, there are fewer than 2 reaches;", ChangeSentences::fewReaches);
        sentences.of("Terms", "6, the ship is alone.", ChangeSentences::alone);
        sentences.of("Terms", "A change is a successful call of addReach, set, addShip, arrive, join, part or pass.",
                ChangeSentences::changes);
        sentences.of("Terms", "The canal before each of the latest 8 changes is kept and can be undone; restore forgets "
                + "them.", ChangeSentences::latestEight);
        sentences.of("Terms", "The text buffer, the fault position and the reason that is kept do not belong to it, and "
                + "stay.", ChangeSentences::whatStays);
        sentences.of("Terms", "A successful call is a change even if it leaves all as it was.",
                ChangeSentences::changeOfNothing);
        sentences.of("Terms", "A call that throws an exception leaves the state unchanged, unless stated otherwise.",
                ChangeSentences::unchanged);
        sentences.of("Terms", "If several conditions of a method are fulfilled, the one that is listed first determines "
                + "the exception.", ChangeSentences::firstCondition);
    }

    private static void firstReason(Check check) {
        LockMaster canal = Canals.with(Canals.plenty(2, 9), "d9t1,u1t1,d1t1");
        check.refused("1 ahead of 2", canal, () -> canal.join(3, 3), 1);
        check.refused("1 ahead of 2, far away", canal, () -> canal.join(-1, -1), 1);
        check.refused("1 ahead of 3", canal, () -> canal.join(0, 3), 1);
        check.refused("1 ahead of 3, the other way", canal, () -> canal.join(3, 0), 1);
        check.refused("1 ahead of 6", canal, () -> canal.part(3), 1);
        check.refused("2", canal, () -> canal.join(0, 0), 2);
        canal.pass(1);
        check.same("0 has left", canal.ship(0, 4), -1);
        check.refused("2 ahead of 3", canal, () -> canal.join(0, 0), 2);
        LockMaster empty = new LockMaster();
        check.refused("1 ahead of 2 without ships", empty, () -> empty.join(0, 0), 1);
        check.refused("1 ahead of 6 without ships", empty, () -> empty.part(0), 1);
    }

    private static void noSuchShip(Check check) {
        LockMaster canal = Canals.with(Canals.plenty(2, 9), "d9t1,d1t1");
        for (int ship : new int[] {Integer.MIN_VALUE, -1, 2, 16, Integer.MAX_VALUE}) {
            check.refused("join " + ship, canal, () -> canal.join(ship, 0), 1);
            check.refused("join with " + ship, canal, () -> canal.join(0, ship), 1);
            check.refused("part " + ship, canal, () -> canal.part(ship), 1);
        }
        check.same("there are these two", canal.join(1, 0) + " " + canal.part(1), "2 1");
    }

    private static void sameConvoy(Check check) {
        LockMaster canal = Canals.with(Canals.plenty(2, 9), "d1t1,d1t1,d1t1,d1t1");
        for (int ship = 0; ship <= 3; ship++) {
            int same = ship;
            check.refused("the same ship " + ship, canal, () -> canal.join(same, same), 2);
        }
        canal.join(1, 0);
        canal.join(2, 0);
        for (int i = 0; i <= 2; i++) {
            for (int k = 0; k <= 2; k++) {
                int ship = i;
                int other = k;
                check.refused(i + " and " + k + " in one convoy", canal, () -> canal.join(ship, other), 2);
            }
        }
        check.same("another convoy", canal.join(3, 2), 4);
        canal.part(1);
        check.same("no more in the convoy", canal.join(1, 2), 4);
    }

    private static void notTogether(Check check) {
        LockMaster canal = Canals.with(Canals.plenty(4, 9), "d1t1r1,u1t1,d1t1");
        check.refused("at the two ends", canal, () -> canal.join(0, 1), 3);
        canal.pass(1);
        check.same("lock 1, 1 and 0", canal.ship(0, 5) + " " + canal.ship(1, 5) + " " + canal.ship(2, 5), "1 1 0");
        check.refused("the same lock, not the same direction", canal, () -> canal.join(0, 1), 3);
        check.refused("the same the other way", canal, () -> canal.join(1, 0), 3);
        check.refused("the same direction, not the same lock", canal, () -> canal.join(0, 2), 3);
        canal.pass(1);
        check.same("lock 2 and 1", canal.ship(0, 5) + " " + canal.ship(2, 5), "2 1");
        canal.pass(3);
        check.same("both have left", canal.ship(0, 5) + " " + canal.ship(2, 5), "-1 -1");
        check.refused("the same direction, but they do not wait", canal, () -> canal.join(0, 2), 3);
        check.refused("the same the other way", canal, () -> canal.join(2, 0), 3);
    }

    private static void sixteenShips(Check check) {
        LockMaster canal = Canals.plenty(2, 9);
        for (int i = 0; i < 15; i++) {
            canal.addShip(1, 1, 0, false);
        }
        Check.type(canal, "d1t1,d1t1");
        check.refused("a text with a 17th", canal, canal::arrive, 4);
        check.same("the 16th", canal.addShip(1, 1, 0, false), 15);
        check.refused("the 17th", canal, () -> canal.addShip(1, 1, 0, false), 4);
        Check.type(canal, "d1t1");
        check.refused("a text with the 17th", canal, canal::arrive, 4);
        canal.undo();
        check.same("undone, the 16th again", canal.addShip(1, 1, 0, false), 15);
    }

    private static void fewReaches(Check check) {
        LockMaster canal = new LockMaster();
        for (int reaches = 0; reaches <= 1; reaches++) {
            check.refused("a ship with " + reaches, canal, () -> canal.addShip(1, 1, 0, false), 5);
            Check.type(canal, "d1t1");
            check.refused("a text with " + reaches, canal, canal::arrive, 5);
            canal.addReach(1, 10, 1, 4, 0);
        }
        check.same("2 reaches", canal.addShip(1, 1, 0, false), 0);
        Check.type(canal, "d1t1");
        check.same("a text", canal.arrive(), 1);
    }

    private static void alone(Check check) {
        LockMaster canal = Canals.with(Canals.plenty(2, 9), "d9t1,d9t1,d9t1");
        check.refused("it was never joined", canal, () -> canal.part(0), 6);
        canal.join(1, 0);
        canal.join(2, 0);
        check.same("one of three", canal.part(1), 2);
        check.refused("it was parted", canal, () -> canal.part(1), 6);
        canal.pass(1);
        check.refused("the row went without it", canal, () -> canal.part(2), 6);
        check.refused("it has left", canal, () -> canal.part(0), 6);
    }

    private static void changes(Check check) {
        LockMaster canal = new LockMaster();
        canal.addReach(9, 90, 0, 0, 0);
        check.same("addReach", canal.undo(), 0);
        canal.addReach(9, 90, 0, 0, 0);
        canal.addReach(9, 90, 9, 4, 0);
        canal.set(0, 1);
        check.same("set", canal.undo(), 2);
        canal.addShip(1, 1, 0, false);
        check.same("addShip", canal.undo(), 2);
        Canals.with(canal, "d1t1,d1t1,d1t1");
        check.same("arrive is one", canal.undo(), 2);
        Canals.with(canal, "d1t1,d1t1,d1t1");
        canal.join(1, 0);
        check.same("join", canal.undo(), 3);
        canal.join(1, 0);
        canal.part(1);
        check.same("part", canal.undo(), 4);
        canal.pass(40);
        check.same("pass is one", canal.undo() + " " + canal.tick(), "4 0");
        String before = Check.portrait(canal);
        canal.append('x');
        canal.save();
        canal.untilLeft(0, 40);
        check.badArgument("addReach", () -> canal.addReach(0, 0, 0, 0, 0));
        check.badIndex("set", () -> canal.set(3, 1));
        check.badArgument("addShip", () -> canal.addShip(0, 0, 0, false));
        check.refused("join", canal, () -> canal.join(0, 1), 2);
        check.refused("part", canal, () -> canal.part(2), 6);
        check.badArgument("pass", () -> canal.pass(0));
        check.badArgument("arrive", canal::arrive);
        check.same("no change", Check.portrait(canal).replace("fault 0 refusal 6", "fault -1 refusal !NoSuchElementException"),
                before);
        check.same("so that join is undone now", canal.undo() + " " + canal.ship(1, 8), "3 1");
    }

    private static void latestEight(Check check) {
        for (int changes : new int[] {7, 8, 9, 16, 17, 40}) {
            LockMaster canal = Canals.plenty(2, 9);
            canal.undo();
            canal.undo();
            for (int i = 1; i <= changes; i++) {
                canal.set(2, i);
            }
            int kept = changes < 8 ? changes : 8;
            for (int i = 1; i <= kept; i++) {
                check.same("undo " + i + " of " + changes, canal.undo(), kept - i);
            }
            check.badState("no more than " + kept, canal::undo);
            check.same("the inflow then", canal.set(2, 0), changes - kept);
        }
        LockMaster both = Canals.plenty(2, 9);
        for (int i = 1; i <= 60; i++) {
            both.set(2, i);
            both.set(2, 99);
            both.undo();
        }
        check.same("undone ones make place for none", both.undo() + " " + both.set(2, 0), "6 59");
        both.save();
        both.set(2, 7);
        both.restore();
        check.badState("restore forgets them", both::undo);
        both.set(2, 8);
        check.same("and keeps the later ones", both.undo(), 0);
    }

    private static void whatStays(Check check) {
        LockMaster canal = Canals.with(Canals.plenty(2, 9), "d1t1");
        Check.type(canal, "d1?");
        check.badArgument("a fault", canal::arrive);
        check.refused("alone", canal, () -> canal.part(0), 6);
        canal.append('u');
        canal.save();
        canal.set(0, 1);
        canal.append('2');
        canal.undo();
        check.same("behind undo", canal.faultPosition() + " " + canal.refusal(), "2 6");
        canal.append('t');
        canal.restore();
        check.same("behind restore", canal.faultPosition() + " " + canal.refusal(), "2 6");
        canal.append('3');
        check.same("the text", canal.arrive(), 1);
        check.same("was u2t3", canal.ship(1, 0) + " " + canal.ship(1, 1) + " " + canal.ship(1, 3), "2 3 1");
        check.same("no fault", canal.faultPosition(), -1);
        check.refused("the same", canal, () -> canal.join(1, 1), 2);
        canal.undo();
        check.same("it is undone, its fault position and reason are not", canal.faultPosition() + " " + canal.refusal(),
                "-1 2");
    }

    private static void changeOfNothing(Check check) {
        LockMaster canal = Canals.with(Canals.plenty(2, 9), "d1t1,d1t1");
        canal.join(1, 0);
        String before = Check.portrait(canal);
        canal.set(0, 5);
        canal.set(1, 20);
        canal.set(2, 0);
        check.same("all as it was", Check.portrait(canal), before);
        check.same("three changes", canal.undo() + " " + canal.undo() + " " + canal.undo(), "6 5 4");
        check.same("as before", Check.portrait(canal), before);
        check.same("then join", canal.undo() + " " + canal.ship(1, 8), "3 1");
    }

    private static void unchanged(Check check) {
        LockMaster canal = Canals.with(Canals.plenty(3, 9), "d1t1,d1t1,u9t1r2,d9t1r3");
        canal.join(1, 0);
        canal.pass(2);
        check.refused("a reason to begin with", canal, () -> canal.part(2), 6);
        canal.append('d');
        String before = Check.portrait(canal);
        check.badState("addReach", () -> canal.addReach(1, 10, 1, 4, 0));
        check.badArgument("addReach", () -> canal.addReach(1, 10, 1, 3, 0));
        check.badArgument("set", () -> canal.set(0, 21));
        check.badIndex("set", () -> canal.set(-1, 1));
        check.badIndex("reach", () -> canal.reach(3, 0));
        check.badIndex("lock", () -> canal.lock(2, 0));
        check.badArgument("addShip", () -> canal.addShip(1, 1, 4, false));
        check.badIndex("ship", () -> canal.ship(4, 0));
        check.badIndex("convoy", () -> canal.convoy(4, 0));
        check.noElement("convoy", () -> canal.convoy(0, 2));
        check.noElement("waiting", () -> canal.waiting(0, 9));
        check.badState("priority", () -> canal.priority(3));
        check.badState("hindrance", () -> canal.hindrance(3));
        check.badArgument("pass", () -> canal.pass(41));
        check.noElement("untilLeft", () -> canal.untilLeft(0, 1));
        check.badArgument("account", () -> canal.account(11));
        check.same("restore", Check.answer(canal::restore), "!IllegalStateException");
        check.refused("part", canal, () -> canal.part(2), 6);
        check.same("the canal", Check.portrait(canal), before);
        check.refused("join", canal, () -> canal.join(0, 2), 3);
        check.same("but for the reason", Check.portrait(canal), before.replace("refusal 6", "refusal 3"));
        Check.type(canal, "1t1");
        check.same("the text buffer", canal.arrive(), 1);
        check.same("the settings", canal.set(0, 1) + " " + canal.set(1, 1) + " " + canal.set(2, 1), "5 20 0");
        check.same("the changes: three reaches, arrive, join, pass, arrive and three of set, of which 8", canal.undo(), 7);
    }

    private static void firstCondition(Check check) {
        LockMaster canal = new LockMaster();
        check.badArgument("pass: the ticks ahead of the reaches", () -> canal.pass(0));
        check.badArgument("addShip: the numbers ahead of the refusal", () -> canal.addShip(0, 1, 0, false));
        Check.type(canal, "d1t");
        check.badArgument("arrive: the fault ahead of the refusal", canal::arrive);
        check.noElement("neither of them was refused", canal::refusal);
        check.badIndex("set: the setting ahead of the value", () -> canal.set(3, -1));
        check.badIndex("reach: the reach ahead of what", () -> canal.reach(0, 6));
        check.badIndex("lock: the lock ahead of what", () -> canal.lock(0, 10));
        check.badIndex("ship: the ship ahead of what", () -> canal.ship(0, 10));
        check.badIndex("convoy: the ship ahead of the index", () -> canal.convoy(0, -1));
        check.badIndex("waiting: the lock ahead of the index", () -> canal.waiting(0, -1));
        check.badIndex("untilLeft: the ship ahead of the ticks", () -> canal.untilLeft(0, 0));
        for (int k = 0; k < 5; k++) {
            canal.addReach(9, 90, 9, 4, 0);
        }
        check.badArgument("addReach: the numbers ahead of the number of reaches", () -> canal.addReach(0, 10, 1, 4, 0));
        canal.addShip(1, 1, 0, false);
        check.badArgument("addReach: the numbers ahead of the ships", () -> canal.addReach(1, 10, 1, 4, 4));
        check.noElement("untilLeft: not in these ticks", () -> canal.untilLeft(0, 1));
        canal.pass(4);
        check.badArgument("untilLeft: the ticks ahead of its leaving", () -> canal.untilLeft(0, 41));
        check.badState("untilLeft: its leaving ahead of the tries", () -> canal.untilLeft(0, 1));
        for (int i = 1; i < 16; i++) {
            canal.addShip(1, 1, 0, false);
        }
        check.badArgument("addShip: the numbers ahead of the 16 ships", () -> canal.addShip(1, 100, 0, false));
        Check.type(canal, "d1t1x");
        check.badArgument("arrive: the fault ahead of the 16 ships", canal::arrive);
        check.noElement("neither of them was refused", canal::refusal);
    }
}
