import java.util.concurrent.Callable;

/** What the tests have in common: answers as texts, and a count of those that are not due. */
final class Check {
    private int checked = 0;
    private int wrong = 0;

    /** The answer of a call: what it returned, or "!" and the name of what it threw. */
    static String answer(Callable<?> call) {
        try {
            return String.valueOf(call.call());
        } catch (Exception e) {
            return "!" + e.getClass().getSimpleName();
        }
    }

    static String answer(Runnable call) {
        return answer(() -> {
            call.run();
            return "done";
        });
    }

    int checks() {
        return checked;
    }

    int wrongOnes() {
        return wrong;
    }

    void same(String what, Object got, Object due) {
        checked++;
        if (!String.valueOf(got).equals(String.valueOf(due))) {
            wrong++;
            System.out.println(what + " answered " + got + ", due is " + due);
        }
    }

    void isTrue(String what, boolean holds) {
        same(what, holds, true);
    }

    void returns(String what, Callable<?> call, Object due) {
        same(what, answer(call), due);
    }

    void badArgument(String what, Callable<?> call) {
        same(what, answer(call), "!IllegalArgumentException");
    }

    void badState(String what, Callable<?> call) {
        same(what, answer(call), "!IllegalStateException");
    }

    void badIndex(String what, Callable<?> call) {
        same(what, answer(call), "!IndexOutOfBoundsException");
    }

    void noElement(String what, Callable<?> call) {
        same(what, answer(call), "!NoSuchElementException");
    }

    void refused(String what, LockMaster canal, Callable<?> call, int reason) {
        same(what, answer(call), "!UnsupportedOperationException");
        same("the reason of " + what, answer(canal::refusal), reason);
    }

    static void type(LockMaster canal, String text) {
        for (int i = 0; i < text.length(); i++) {
            canal.append(text.charAt(i));
        }
    }

    /** All that can be asked of the canal, the reason and the fault position included, in one text. */
    static String portrait(LockMaster canal) {
        StringBuilder text = new StringBuilder();
        text.append("tick ").append(canal.tick()).append(" fault ").append(canal.faultPosition());
        text.append(" refusal ").append(answer(canal::refusal)).append(" mean ").append(answer(canal::meanLocked));
        for (int what = 0; what <= 10; what++) {
            text.append(what == 0 ? " accounts " : ",").append(canal.account(what));
        }
        for (int k = 0; k < canal.account(0); k++) {
            for (int what = 0; what <= 5; what++) {
                text.append(what == 0 ? " reach " : ",").append(canal.reach(k, what));
            }
        }
        for (int k = 0; k + 1 < canal.account(0); k++) {
            for (int what = 0; what <= 9; what++) {
                text.append(what == 0 ? " lock " : ",").append(canal.lock(k, what));
            }
            for (int i = 0; i < canal.lock(k, 7); i++) {
                text.append(i == 0 ? " waiting " : ",").append(canal.waiting(k, i));
            }
        }
        for (int s = 0; s < canal.account(1); s++) {
            int ship = s;
            for (int what = 0; what <= 9; what++) {
                text.append(what == 0 ? " ship " : ",").append(canal.ship(s, what));
            }
            text.append(" convoy");
            for (int i = 0; i < canal.ship(s, 8); i++) {
                text.append(' ').append(canal.convoy(s, i));
            }
            text.append(" priority ").append(answer(() -> canal.priority(ship)));
            text.append(" hindrance ").append(answer(() -> canal.hindrance(ship)));
        }
        return text.toString();
    }

    void finish() {
        System.out.println(checked + " checks, " + wrong + " wrong");
        if (wrong != 0) {
            System.exit(1);
        }
    }
}
