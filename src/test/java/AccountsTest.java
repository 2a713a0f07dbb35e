/** Promises 20 to 22: untilLeft, account and meanLocked. */
public final class AccountsTest {
    private static final Check CHECK = new Check();

    public static void main(String[] args) {
        untilLeft();
        untilLeftWrong();
        untilLastTick();
        account();
        meanLocked();
        CHECK.finish();
    }

    private static LockMaster canal() {
        LockMaster canal = new LockMaster();
        canal.addReach(9, 90, 0, 0, 0);
        canal.addReach(9, 90, 9, 12, 2);
        canal.addReach(9, 90, 9, 12, 0);
        return canal;
    }

    private static void untilLeft() {
        LockMaster canal = canal();
        Check.type(canal, "d9t1r1,d9t1,u9t1,u3t1,u3t1");
        canal.arrive();
        canal.join(4, 3);
        String before = Check.portrait(canal);
        CHECK.same("0", canal.untilLeft(0, 40), 2);
        CHECK.same("1", canal.untilLeft(1, 40), 3);
        CHECK.same("just in time", canal.untilLeft(1, 3), 3);
        CHECK.noElement("too late", () -> canal.untilLeft(1, 2));
        int last = canal.untilLeft(4, 40);
        CHECK.same("a forecast changes nothing", Check.portrait(canal), before);
        CHECK.same("nor is it a change", canal.undo(), 4);
        canal.join(4, 3);
        canal.pass(last - 1);
        CHECK.same("still there", canal.untilLeft(4, 1), 1);
        canal.pass(1);
        CHECK.same("it has left", canal.ship(4, 4), -1);
        CHECK.badState("no forecast any more", () -> canal.untilLeft(4, 1));
    }

    private static void untilLeftWrong() {
        LockMaster canal = canal();
        CHECK.badIndex("no ship, ahead of the ticks", () -> canal.untilLeft(0, 0));
        canal.addShip(9, 1, 0, false);
        CHECK.badIndex("ship -1", () -> canal.untilLeft(-1, 1));
        CHECK.badIndex("ship 1", () -> canal.untilLeft(1, 1));
        CHECK.badArgument("0 ticks", () -> canal.untilLeft(0, 0));
        CHECK.badArgument("41 ticks", () -> canal.untilLeft(0, 41));
        canal.pass(2);
        CHECK.badState("it has left", () -> canal.untilLeft(0, 1));
        CHECK.badArgument("the ticks come first", () -> canal.untilLeft(0, 41));
    }

    private static void untilLastTick() {
        LockMaster canal = canal();
        for (int i = 0; i < 12; i++) {
            canal.pass(40);
        }
        canal.pass(18);
        canal.addShip(9, 1, 0, false);
        canal.addShip(9, 1, 0, false);
        CHECK.same("at tick number 500", canal.untilLeft(0, 40), 2);
        CHECK.noElement("behind it", () -> canal.untilLeft(1, 40));
        CHECK.same("two ticks are left", canal.pass(2), 1);
        CHECK.noElement("no tick is left", () -> canal.untilLeft(1, 40));
    }

    private static String accounts(LockMaster canal) {
        StringBuilder text = new StringBuilder();
        for (int what = 0; what <= 10; what++) {
            text.append(canal.account(what)).append(' ');
        }
        return text.toString();
    }

    private static void account() {
        LockMaster canal = canal();
        CHECK.same("at first", accounts(canal), "3 0 0 0 2430 0 0 0 0 0 2430 ");
        Check.type(canal, "d9t1,d3t1,d3t1,u9t1");
        canal.arrive();
        canal.join(2, 1);
        canal.set(2, 5);
        canal.pass(1);
        CHECK.same("behind a tick", accounts(canal), "3 4 0 3 2417 18 5 0 2 0 2430 ");
        canal.pass(1);
        CHECK.same("behind two ticks", accounts(canal), "3 4 1 2 " + canal.account(4) + " "
                + (2440 - canal.account(7) - canal.account(4)) + " 10 " + canal.account(7) + " 4 6 2430 ");
        CHECK.badArgument("what -1", () -> canal.account(-1));
        CHECK.badArgument("what 11", () -> canal.account(11));
        CHECK.badArgument("what far away", () -> canal.account(Integer.MAX_VALUE));
    }

    private static void meanLocked() {
        LockMaster canal = canal();
        CHECK.same("no locking", Check.answer(canal::meanLocked), "!ArithmeticException");
        Check.type(canal, "d3t1,d3t1,d3t1,d3t1");
        canal.arrive();
        for (int s = 1; s < 4; s++) {
            canal.join(s, 0);
        }
        canal.pass(1);
        CHECK.same("three in one", canal.meanLocked(), 3.0);
        canal.pass(1);
        CHECK.same("3 + 3 + 1 ships in 3 lockings", canal.meanLocked(), 7.0 / 3.0);
        canal.pass(1);
        CHECK.same("8 in 4", canal.meanLocked(), 2.0);
    }
}
