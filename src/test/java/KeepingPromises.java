/** The sentences of the promises 23 to 25: undo, save and restore. */
final class KeepingPromises {
    private KeepingPromises() {
    }

    static void tell(Sentences sentences) {
        sentences.of("23", "Undoes the latest change that is kept.", KeepingPromises::undoesTheLatest);
        sentences.of("23", "Returns the number of changes that can still be undone.", KeepingPromises::stillUndone);
        sentences.of("23", "Throws `IllegalStateException` if no change is kept", KeepingPromises::noChange);
        sentences.of("24", "Saves the canal, in place of an earlier snapshot.", KeepingPromises::inPlaceOfAnEarlierOne);
        sentences.of("25", "Restores what was saved; the snapshot is kept.", KeepingPromises::snapshotIsKept);
        sentences.of("25", "Throws `IllegalStateException` if there is no snapshot", KeepingPromises::noSnapshot);
    }

    /** Each kind of change once, on a canal of three reaches without ships. */
    private static void change(LockMaster canal, int number) {
        switch (number) {
            case 0 -> canal.addReach(1, 20, 5, 8, 1);
            case 1 -> canal.set(2, 7);
            case 2 -> canal.addShip(3, 1, 2, false);
            case 3 -> Canals.with(canal, "d2t1,u1t1,d1t9r3");
            case 4 -> canal.join(1, 0);
            case 5 -> canal.pass(1);
            case 6 -> canal.part(0);
            default -> canal.pass(12);
        }
    }

    private static LockMaster three() {
        LockMaster canal = new LockMaster();
        canal.addReach(1, 50, 0, 0, 0);
        canal.addReach(2, 40, 5, 12, 2);
        canal.addReach(1, 50, 5, 8, 3);
        return canal;
    }

    private static LockMaster changed(int changes) {
        LockMaster canal = three();
        for (int i = 0; i < changes; i++) {
            change(canal, i);
        }
        return canal;
    }

    private static void undoesTheLatest(Check check) {
        for (int left = 7; left >= 0; left--) {
            LockMaster canal = changed(8);
            for (int i = 8; i > left; i--) {
                canal.undo();
            }
            check.same("all as behind " + left, Check.portrait(canal), Check.portrait(changed(left)));
            for (int i = left; i < 8; i++) {
                change(canal, i);
            }
            check.same("the same changes make the same canal", Check.portrait(canal), Check.portrait(changed(8)));
        }
        LockMaster settings = three();
        settings.set(0, 1);
        settings.set(1, 2);
        settings.set(2, 3);
        settings.undo();
        settings.undo();
        settings.undo();
        check.same("settings", settings.set(0, 9) + " " + settings.set(1, 9) + " " + settings.set(2, 9), "5 20 0");
    }

    private static void stillUndone(Check check) {
        LockMaster canal = new LockMaster();
        canal.set(0, 1);
        check.same("of 1", canal.undo(), 0);
        for (int changes = 2; changes <= 12; changes++) {
            for (int i = 0; i < changes; i++) {
                canal.set(0, 1 + i);
            }
            for (int i = Math.min(changes, 8) - 1; i >= 0; i--) {
                check.same("of " + changes, canal.undo(), i);
            }
        }
        for (int i = 0; i < 30; i++) {
            canal.set(1, i);
        }
        canal.undo();
        canal.undo();
        canal.set(1, 50);
        check.same("7 and one more, less one", canal.undo() + " " + canal.set(1, 50), "6 27");
    }

    private static void noChange(Check check) {
        LockMaster canal = new LockMaster();
        check.badState("a new object", canal::undo);
        check.badState("again", canal::undo);
        canal.set(0, 1);
        canal.undo();
        check.badState("the only one is undone", canal::undo);
        for (int i = 1; i <= 9; i++) {
            canal.set(0, i);
        }
        for (int i = 1; i <= 8; i++) {
            canal.undo();
        }
        check.badState("the ninth is not kept", canal::undo);
        check.same("it stays", canal.set(0, 5), 1);
        canal.save();
        canal.restore();
        check.badState("restore forgets them", canal::undo);
        check.badArgument("a call that throws", () -> canal.set(0, 0));
        check.badState("is no change", canal::undo);
    }

    private static void inPlaceOfAnEarlierOne(Check check) {
        LockMaster canal = changed(3);
        canal.save();
        change(canal, 3);
        canal.restore();
        check.same("the first one", Check.portrait(canal), Check.portrait(changed(3)));
        change(canal, 3);
        canal.save();
        String second = Check.portrait(changed(4));
        check.same("to save changes nothing", Check.portrait(canal), second);
        check.same("and is no change", canal.undo(), 0);
        canal.pass(7);
        canal.restore();
        check.same("the second one in its place", Check.portrait(canal), second);
        LockMaster kept = changed(4);
        kept.save();
        check.same("to save forgets no change", kept.undo(), 6);
        LockMaster empty = new LockMaster();
        empty.save();
        empty.addReach(1, 10, 0, 0, 0);
        empty.restore();
        check.same("an empty canal", empty.account(0) + " " + empty.addReach(9, 99, 0, 0, 0), "0 0");
    }

    private static void snapshotIsKept(Check check) {
        String saved = Check.portrait(changed(7));
        LockMaster canal = changed(7);
        canal.save();
        for (int i = 1; i <= 2; i++) {
            canal.pass(5 * i);
            canal.set(2, i);
            canal.addShip(1, 1, 0, true);
            canal.restore();
            check.same("restored " + i, Check.portrait(canal), saved);
        }
        canal.pass(3);
        canal.undo();
        canal.restore();
        check.same("twice, and undo does not touch it", Check.portrait(canal), saved);
        check.same("the settings", canal.set(0, 1) + " " + canal.set(1, 1) + " " + canal.set(2, 1), "5 20 7");
        canal.restore();
        check.same("the settings are restored", canal.set(0, 1) + " " + canal.set(1, 1) + " " + canal.set(2, 1), "5 20 7");
        LockMaster whole = Canals.with(Canals.plenty(5, 9), "d9t9r3,u9t9r2");
        whole.pass(1);
        whole.save();
        String before = Check.portrait(whole);
        for (int i = 0; i < 8; i++) {
            Check.answer(whole::undo);
        }
        whole.addReach(1, 10, 0, 0, 0);
        whole.addReach(1, 11, 1, 8, 3);
        Canals.with(whole, "u1t1,d1t2,u1t3,d1t4").pass(4);
        whole.restore();
        check.same("over a canal of other reaches, locks and ships", Check.portrait(whole), before);
        check.same("ships and locks", whole.account(1) + " " + whole.account(0), "2 5");
    }

    private static void noSnapshot(Check check) {
        LockMaster canal = three();
        canal.set(0, 9);
        String before = Check.portrait(canal);
        check.same("none was saved", Check.answer(canal::restore), "!IllegalStateException");
        check.same("all as it was", Check.portrait(canal), before);
        check.same("no change is forgotten", canal.undo(), 3);
        canal.save();
        check.same("one was saved", Check.answer(canal::restore), "done");
        check.same("and is kept", Check.answer(canal::restore), "done");
    }
}
