import java.util.Random;

/** Runs of some 400 calls, the same ones each time, on the program and on Model: no answer may differ, and no water be lost. */
public final class RandomRunsTest {
    private static final int RUNS = 2000;
    /** An arrival may still follow: none of its characters is behind the 512th call. */
    private static final int CALLS = 400;
    private static final String[] PIECES = {"d", "u", "1", "3", "9", "t", "1", "12", "r", "3", ",", "0", "4", "x"};

    private final Check check = new Check();
    private final Random random;
    private final LockMaster canal = new LockMaster();
    private final Model model = new Model();
    private final String name;
    private final boolean isDry;
    private int made = 0;

    private RandomRunsTest(int seed) {
        random = new Random(seed);
        name = "run " + seed;
        isDry = seed % 2 == 0;
    }

    public static void main(String[] args) {
        int wrong = 0;
        for (int seed = 1; seed <= RUNS && wrong < 5; seed++) {
            wrong += new RandomRunsTest(seed).isGood() ? 0 : 1;
        }
        Check check = new Check();
        check.same("wrong runs", wrong, 0);
        check.finish();
    }

    private boolean isGood() {
        StringBuilder calls = new StringBuilder();
        while (made < CALLS) {
            String difference = call(calls);
            if (difference != null) {
                System.out.println(name + ", call " + made + ": " + difference + " behind:" + calls);
                return false;
            }
        }
        int lost = canal.account(10) + canal.account(6) - canal.account(4) - canal.account(5) - canal.account(7);
        if (lost != 0) {
            System.out.println(name + ": " + lost + " units were lost behind:" + calls);
        }
        return lost == 0;
    }

    private int number(int least, int most) {
        return least + random.nextInt(most - least + 1);
    }

    /** Mostly within the range, seldom just outside of it or far away. */
    private int argument(int least, int most) {
        int dice = random.nextInt(60);
        if (dice == 0) {
            return random.nextBoolean() ? least - 1 : most + 1;
        }
        return dice == 1 && random.nextInt(4) == 0 ? random.nextInt() : number(least, most);
    }

    private int anyShip() {
        return argument(0, Math.max(0, model.account(1) - 1));
    }

    private int anyLock() {
        return argument(0, Math.max(0, model.account(0) - 2));
    }

    private String call(StringBuilder calls) {
        if (model.account(0) < 2 || model.account(1) == 0 && random.nextInt(3) == 0) {
            return build(calls);
        }
        int dice = random.nextInt(100);
        return dice < 45 ? ask(dice, calls) : act(dice, calls);
    }

    private String build(StringBuilder calls) {
        int dice = random.nextInt(12);
        if (dice < 8) {
            int area = argument(1, isDry ? 3 : 9);
            int level = argument(10, isDry ? 25 : 99);
            int length = argument(1, 9);
            int chamber = argument(4, random.nextInt(3) == 0 ? 60 : 14);
            int basins = argument(0, 3);
            return both(calls, "addReach " + area + " " + level + " " + length + " " + chamber + " " + basins,
                    Check.answer(() -> canal.addReach(area, level, length, chamber, basins)),
                    Check.answer(() -> model.addReach(area, level, length, chamber, basins)));
        }
        return dice < 10 ? act(number(45, 99), calls) : ask(number(0, 44), calls);
    }

    private String act(int dice, StringBuilder calls) {
        int a = anyShip();
        int b = anyShip();
        if (dice < 55) {
            return addShip(calls);
        }
        if (dice < 62) {
            return arrive(calls);
        }
        if (dice < 74) {
            return both(calls, "join " + a + " " + b, Check.answer(() -> canal.join(a, b)),
                    Check.answer(() -> model.join(a, b)));
        }
        if (dice < 78) {
            return both(calls, "part " + a, Check.answer(() -> canal.part(a)), Check.answer(() -> model.part(a)));
        }
        if (dice < 90) {
            int ticks = argument(1, random.nextInt(8) == 0 ? 40 : 3);
            return both(calls, "pass " + ticks, Check.answer(() -> canal.pass(ticks)),
                    Check.answer(() -> model.pass(ticks)));
        }
        if (dice < 95) {
            int setting = argument(0, 2);
            int value = argument(setting == 0 ? 1 : 0, setting == 0 ? 20 : setting == 1 ? 50 : isDry ? 8 : 99);
            return both(calls, "set " + setting + " " + value, Check.answer(() -> canal.set(setting, value)),
                    Check.answer(() -> model.set(setting, value)));
        }
        if (dice < 98) {
            return both(calls, "undo", Check.answer(() -> canal.undo()), Check.answer(() -> model.undo()));
        }
        if (random.nextInt(3) > 0) {
            return both(calls, "save", Check.answer((Runnable) canal::save), Check.answer((Runnable) model::save));
        }
        return both(calls, "restore", Check.answer((Runnable) canal::restore), Check.answer((Runnable) model::restore));
    }

    private String addShip(StringBuilder calls) {
        int size = argument(1, 9);
        int draught = argument(1, isDry ? 12 : 40);
        int rank = random.nextInt(3) == 0 ? 3 : argument(0, 3);
        boolean goesUp = random.nextBoolean();
        return both(calls, "addShip " + size + " " + draught + " " + rank + " " + goesUp,
                Check.answer(() -> canal.addShip(size, draught, rank, goesUp)),
                Check.answer(() -> model.addShip(size, draught, rank, goesUp)));
    }

    private String arrive(StringBuilder calls) {
        StringBuilder text = new StringBuilder();
        int arrivals = number(1, random.nextInt(10) == 0 ? 12 : 3);
        for (int i = 0; i < arrivals; i++) {
            text.append(i == 0 ? "" : ",").append(random.nextBoolean() ? 'd' : 'u').append(number(1, 9)).append('t')
                    .append(number(1, 15)).append(random.nextBoolean() ? "" : "r" + number(0, 3));
        }
        if (random.nextInt(2) == 0) {
            text.insert(random.nextInt(text.length() + 1), PIECES[random.nextInt(PIECES.length)]);
        }
        if (random.nextInt(3) == 0) {
            text.setLength(random.nextInt(text.length() + 1));
        }
        for (int i = 0; i < text.length(); i++) {
            char c = text.charAt(i);
            String difference = both(calls, "append " + c, Check.answer(() -> canal.append(c)),
                    Check.answer(() -> model.append(c)));
            if (difference != null) {
                return difference;
            }
        }
        String difference = both(calls, "arrive", Check.answer(() -> canal.arrive()),
                Check.answer(() -> model.arrive()));
        return difference != null ? difference
                : both(calls, "faultPosition", canal.faultPosition(), model.faultPosition());
    }

    private String ask(int dice, StringBuilder calls) {
        int ship = anyShip();
        int lock = anyLock();
        int what = argument(0, 9);
        if (dice < 6) {
            int reach = argument(0, Math.max(0, model.account(0) - 1));
            int number = argument(0, 5);
            return both(calls, "reach " + reach + " " + number, Check.answer(() -> canal.reach(reach, number)),
                    Check.answer(() -> model.reach(reach, number)));
        }
        if (dice < 12) {
            return both(calls, "lock " + lock + " " + what, Check.answer(() -> canal.lock(lock, what)),
                    Check.answer(() -> model.lock(lock, what)));
        }
        if (dice < 19) {
            return both(calls, "ship " + ship + " " + what, Check.answer(() -> canal.ship(ship, what)),
                    Check.answer(() -> model.ship(ship, what)));
        }
        if (dice < 22) {
            int index = argument(0, 2);
            return both(calls, "convoy " + ship + " " + index, Check.answer(() -> canal.convoy(ship, index)),
                    Check.answer(() -> model.convoy(ship, index)));
        }
        if (dice < 26) {
            int index = argument(0, 3);
            return both(calls, "waiting " + lock + " " + index, Check.answer(() -> canal.waiting(lock, index)),
                    Check.answer(() -> model.waiting(lock, index)));
        }
        if (dice < 29) {
            return both(calls, "priority " + ship, Check.answer(() -> canal.priority(ship)),
                    Check.answer(() -> model.priority(ship)));
        }
        return dice < 36 ? askAhead(dice, ship, calls) : askAccounts(dice, calls);
    }

    private String askAhead(int dice, int ship, StringBuilder calls) {
        if (dice < 33) {
            return both(calls, "hindrance " + ship, Check.answer(() -> canal.hindrance(ship)),
                    Check.answer(() -> model.hindrance(ship)));
        }
        int ticks = argument(1, 40);
        return both(calls, "untilLeft " + ship + " " + ticks, Check.answer(() -> canal.untilLeft(ship, ticks)),
                Check.answer(() -> model.untilLeft(ship, ticks)));
    }

    private String askAccounts(int dice, StringBuilder calls) {
        if (dice < 41) {
            int what = argument(0, 10);
            return both(calls, "account " + what, Check.answer(() -> canal.account(what)),
                    Check.answer(() -> model.account(what)));
        }
        if (dice == 41) {
            return both(calls, "meanLocked", Check.answer(() -> canal.meanLocked()),
                    Check.answer(() -> model.meanLocked()));
        }
        return dice == 42 ? both(calls, "tick", canal.tick(), model.tick())
                : both(calls, "refusal", Check.answer(() -> canal.refusal()), Check.answer(() -> model.refusal()));
    }

    private String both(StringBuilder calls, String call, Object got, Object due) {
        made++;
        calls.append("\n  ").append(call).append(" = ").append(got);
        check.same(name + " " + call, got, due);
        return String.valueOf(got).equals(String.valueOf(due)) ? null : call + " answered " + got + ", due is " + due;
    }
}
