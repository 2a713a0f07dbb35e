/** Promises 23 to 25: undo, save and restore. */
public final class UndoTest {
    private static final Check CHECK = new Check();

    public static void main(String[] args) {
        undoEachChange();
        onlyEight();
        failuresAreNoChanges();
        whatStays();
        saveAndRestore();
        anotherCanal();
        CHECK.finish();
    }

    private static LockMaster canal() {
        LockMaster canal = new LockMaster();
        canal.addReach(1, 50, 0, 0, 0);
        canal.addReach(2, 40, 5, 12, 2);
        canal.addReach(1, 50, 5, 8, 3);
        return canal;
    }

    private static void undoEachChange() {
        LockMaster canal = canal();
        String atFirst = Check.portrait(canal);
        for (int i = 0; i < 8; i++) {
            change(canal, i);
        }
        for (int i = 7; i >= 0; i--) {
            CHECK.same("undo " + i, canal.undo(), i);
        }
        CHECK.same("as at first", Check.portrait(canal), atFirst);
        CHECK.badState("no more", canal::undo);
        CHECK.same("a new change", canal.set(0, 3), 5);
        CHECK.same("can be undone", canal.undo(), 0);
        CHECK.same("the setting too", canal.set(0, 3), 5);
    }

    private static void change(LockMaster canal, int number) {
        switch (number) {
            case 0 -> canal.addReach(1, 20, 5, 8, 1);
            case 1 -> canal.set(2, 7);
            case 2 -> canal.addShip(3, 1, 2, false);
            case 3 -> {
                Check.type(canal, "d2t1,u1t1,d1t9r3");
                canal.arrive();
            }
            case 4 -> canal.join(1, 0);
            case 5 -> canal.pass(1);
            case 6 -> canal.part(0);
            default -> canal.pass(12);
        }
    }

    private static void onlyEight() {
        LockMaster canal = canal();
        for (int i = 1; i <= 20; i++) {
            canal.set(0, i);
        }
        for (int i = 7; i >= 4; i--) {
            CHECK.same("undo", canal.undo(), i);
        }
        CHECK.same("four more", canal.set(1, 1) + canal.set(1, 2) + canal.set(1, 3) + canal.set(1, 4), 26);
        for (int i = 7; i >= 0; i--) {
            CHECK.same("undo", canal.undo(), i);
        }
        CHECK.badState("no ninth", canal::undo);
        CHECK.same("12 changes of the patience are still there", canal.set(0, 1), 12);
        CHECK.same("a change that leaves all as it was", canal.set(0, 1), 1);
        CHECK.same("is a change", canal.undo(), 1);
    }

    private static void failuresAreNoChanges() {
        LockMaster canal = canal();
        canal.set(0, 7);
        canal.addShip(1, 1, 0, true);
        String before = Check.portrait(canal);
        CHECK.badState("addReach", () -> canal.addReach(1, 10, 1, 4, 0));
        CHECK.badArgument("set", () -> canal.set(0, 0));
        CHECK.badArgument("addShip", () -> canal.addShip(0, 0, 0, false));
        CHECK.badArgument("pass", () -> canal.pass(0));
        CHECK.badArgument("arrive", canal::arrive);
        canal.append('x');
        canal.save();
        CHECK.same("as before, but for the fault", Check.portrait(canal), before.replace("fault -1", "fault 0"));
        CHECK.refused("join", canal, () -> canal.join(0, 0), 2);
        CHECK.refused("part", canal, () -> canal.part(0), 6);
        CHECK.same("undo takes back addShip", canal.undo() + " " + canal.account(1), "4 0");
        CHECK.same("undo takes back set", canal.undo() + " " + canal.set(0, 1), "3 5");
    }

    private static void whatStays() {
        LockMaster canal = canal();
        canal.append('d');
        canal.set(0, 7);
        canal.append('1');
        canal.undo();
        canal.append('t');
        canal.append('1');
        CHECK.same("the text buffer stays", canal.arrive(), 1);
        Check.type(canal, "d1!");
        CHECK.badArgument("a fault", canal::arrive);
        canal.undo();
        CHECK.same("the fault position stays", canal.faultPosition(), 2);
        canal.save();
        canal.append('u');
        canal.restore();
        Check.type(canal, "1t1");
        CHECK.same("the text buffer stays behind restore", canal.arrive(), 1);
        CHECK.same("and was read anew", canal.ship(0, 3) + " " + canal.faultPosition(), "1 -1");
    }

    private static void anotherCanal() {
        LockMaster canal = canal();
        canal.set(1, 9);
        Check.type(canal, "d2t5r1,d3t6r2,u4t7");
        canal.arrive();
        canal.join(1, 0);
        LockMaster anew = canal();
        anew.set(1, 9);
        Check.type(anew, "d2t5r1,d3t6r2,u4t7");
        anew.arrive();
        anew.join(1, 0);
        canal.save();
        while (canal.account(0) > 0) {
            canal.undo();
        }
        canal.addReach(9, 90, 0, 0, 0);
        canal.addReach(8, 80, 9, 60, 1);
        canal.addReach(7, 70, 9, 50, 0);
        canal.addReach(6, 60, 9, 40, 1);
        Check.type(canal, "u9t1r3,u8t2,d7t3r3,d6t4");
        canal.arrive();
        canal.pass(1);
        canal.undo();
        canal.restore();
        CHECK.same("the whole first canal is restored", Check.portrait(canal), Check.portrait(anew));
        CHECK.same("its settings too", canal.set(0, 5) + " " + canal.set(1, 5) + " " + canal.set(2, 5), "5 9 0");
        canal.set(2, 0);
        canal.set(1, 9);
        canal.pass(7);
        anew.pass(7);
        CHECK.same("and goes on like one", Check.portrait(canal), Check.portrait(anew));
    }

    private static void saveAndRestore() {
        LockMaster canal = canal();
        CHECK.same("no snapshot", Check.answer(canal::restore), "!IllegalStateException");
        CHECK.same("undo is as it was", canal.undo(), 2);
        canal.addReach(1, 50, 5, 8, 3);
        Check.type(canal, "d2t1,u1t1r2,d1t9r3,d5t2,d3t1");
        canal.arrive();
        canal.join(2, 0);
        canal.set(2, 4);
        canal.pass(2);
        String saved = Check.portrait(canal);
        canal.save();
        canal.pass(9);
        CHECK.same("seven changes", canal.undo(), 7);
        canal.undo();
        canal.pass(3);
        canal.set(2, 0);
        canal.restore();
        CHECK.same("restored", Check.portrait(canal), saved);
        CHECK.badState("the changes are forgotten", canal::undo);
        CHECK.same("the inflow too", canal.set(2, 4), 4);
        canal.pass(5);
        CHECK.same("new changes are kept", canal.undo(), 1);
        canal.pass(7);
        canal.restore();
        CHECK.same("the snapshot is kept", Check.portrait(canal), saved);
        canal.pass(1);
        canal.save();
        canal.pass(1);
        canal.restore();
        CHECK.same("in place of an earlier one", canal.tick(), 3);
        LockMaster empty = new LockMaster();
        empty.save();
        empty.addReach(1, 10, 0, 0, 0);
        empty.restore();
        CHECK.same("an empty canal", empty.account(0), 0);
        CHECK.same("begins anew", empty.addReach(1, 10, 0, 0, 0), 0);
    }
}
