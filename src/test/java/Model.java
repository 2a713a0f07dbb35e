import java.util.ArrayList;
import java.util.Comparator;
import java.util.List;
import java.util.NoSuchElementException;
import java.util.regex.Matcher;
import java.util.regex.Pattern;

/** The document's sentences once more, one by one, in plain lists: RandomRunsTest compares the program with it. */
final class Model {
    private static final Pattern ARRIVALS =
            Pattern.compile("[du][1-9]t[1-9][0-9]?(r[0-3])?(,[du][1-9]t[1-9][0-9]?(r[0-3])?)*");

    private static final class Reach {
        int area;
        int normal;
        int water;

        int level() {
            return water / area;
        }

        int dryness() {
            return level() >= normal - 2 ? 0 : level() >= normal - 6 ? 1 : 2;
        }
    }

    private static final class Lock {
        int length;
        int chamber;
        boolean isFull;
        boolean[] basins;
        int ships;
        int lockings;

        int fullBasins() {
            int sum = 0;
            for (boolean basin : basins) {
                sum += basin ? 1 : 0;
            }
            return sum;
        }

        int water() {
            return (isFull ? chamber : 0) + fullBasins() * (chamber / 4);
        }
    }

    private static final class Ship {
        int number;
        int size;
        int draught;
        int rank;
        boolean goesUp;
        int reach;
        int waited;
        boolean wasLocked;
        int leftAt = -1;

        boolean hasLeft() {
            return reach == -1;
        }

        int lock() {
            return hasLeft() ? -1 : goesUp ? reach - 1 : reach;
        }
    }

    private static final class Canal {
        List<Reach> reaches = new ArrayList<>();
        List<Lock> locks = new ArrayList<>();
        List<Ship> ships = new ArrayList<>();
        List<List<Ship>> convoys = new ArrayList<>();
        int[] settings = {5, 20, 0};
        int tick;
        int inflow;
        int outflow;
        int fromBasins;
        int made;

        Canal copy() {
            Canal copy = new Canal();
            for (Reach reach : reaches) {
                Reach to = new Reach();
                to.area = reach.area;
                to.normal = reach.normal;
                to.water = reach.water;
                copy.reaches.add(to);
            }
            for (Lock lock : locks) {
                Lock to = new Lock();
                to.length = lock.length;
                to.chamber = lock.chamber;
                to.isFull = lock.isFull;
                to.basins = lock.basins.clone();
                to.ships = lock.ships;
                to.lockings = lock.lockings;
                copy.locks.add(to);
            }
            for (Ship ship : ships) {
                copy.ships.add(copyOf(ship));
            }
            for (List<Ship> convoy : convoys) {
                List<Ship> to = new ArrayList<>();
                for (Ship ship : convoy) {
                    to.add(copy.ships.get(ship.number));
                }
                copy.convoys.add(to);
            }
            copy.settings = settings.clone();
            copy.tick = tick;
            copy.inflow = inflow;
            copy.outflow = outflow;
            copy.fromBasins = fromBasins;
            copy.made = made;
            return copy;
        }

        private static Ship copyOf(Ship ship) {
            Ship to = new Ship();
            to.number = ship.number;
            to.size = ship.size;
            to.draught = ship.draught;
            to.rank = ship.rank;
            to.goesUp = ship.goesUp;
            to.reach = ship.reach;
            to.waited = ship.waited;
            to.wasLocked = ship.wasLocked;
            to.leftAt = ship.leftAt;
            return to;
        }

        List<Ship> convoyOf(Ship ship) {
            for (List<Ship> convoy : convoys) {
                if (convoy.contains(ship)) {
                    return convoy;
                }
            }
            return List.of(ship);
        }

        int priority(List<Ship> convoy) {
            int greatest = 0;
            for (Ship ship : convoy) {
                greatest = Math.max(greatest, ship.rank);
            }
            return 4 * greatest + convoy.get(0).waited / settings[0];
        }

        List<List<Ship>> inOrder(int lock) {
            List<List<Ship>> found = new ArrayList<>();
            for (List<Ship> convoy : convoys) {
                if (convoy.get(0).lock() == lock) {
                    found.add(convoy);
                }
            }
            Comparator<List<Ship>> byPriority = Comparator.comparingInt(convoy -> -priority(convoy));
            found.sort(byPriority.thenComparingInt(convoy -> convoy.get(0).number));
            return found;
        }

        List<Ship> row(List<Ship> convoy) {
            int length = locks.get(convoy.get(0).lock()).length;
            List<Ship> row = new ArrayList<>();
            for (Ship ship : convoy) {
                if (sizes(row) + ship.size > length) {
                    break;
                }
                row.add(ship);
            }
            return row;
        }

        private static int sizes(List<Ship> row) {
            int sum = 0;
            for (Ship ship : row) {
                sum += ship.size;
            }
            return sum;
        }

        private boolean isDeepEnough(List<Ship> row) {
            int from = row.get(0).reach;
            int to = row.get(0).goesUp ? from - 1 : from + 1;
            return row.stream().allMatch(ship -> reaches.get(from).level() >= ship.draught
                    && reaches.get(to).level() >= ship.draught);
        }

        private boolean isAllowedByDrought(List<Ship> row) {
            int lock = row.get(0).lock();
            int dryness = reaches.get(lock).dryness();
            if (dryness == 1) {
                return sizes(row) >= locks.get(lock).length / 2.0 || row.get(0).waited >= settings[1];
            }
            return dryness == 0 || row.stream().allMatch(ship -> ship.rank == 3);
        }

        boolean fill(int number) {
            Lock lock = locks.get(number);
            int lacking = lock.chamber - lock.fullBasins() * (lock.chamber / 4);
            if (reaches.get(number).water < lacking) {
                return false;
            }
            for (int b = lock.basins.length - 1; b >= 0; b--) {
                if (lock.basins[b]) {
                    fromBasins += lock.chamber / 4;
                    lock.basins[b] = false;
                }
            }
            reaches.get(number).water -= lacking;
            lock.isFull = true;
            return true;
        }

        void empty(int number) {
            Lock lock = locks.get(number);
            int has = lock.chamber;
            for (int b = 0; b < lock.basins.length; b++) {
                if (!lock.basins[b] && has >= lock.chamber / 4) {
                    lock.basins[b] = true;
                    has -= lock.chamber / 4;
                }
            }
            reaches.get(number + 1).water += has;
            lock.isFull = false;
        }

        boolean makeReady(int lock, boolean goesUp) {
            if (goesUp) {
                if (locks.get(lock).isFull) {
                    empty(lock);
                }
                return true;
            }
            return locks.get(lock).isFull || fill(lock);
        }

        boolean carry(int lock, boolean goesUp) {
            if (goesUp) {
                return fill(lock);
            }
            empty(lock);
            return true;
        }

        /** Only on a copy that is thrown away. */
        int hindrance(List<Ship> convoy) {
            List<Ship> row = row(convoy);
            if (row.isEmpty()) {
                return 1;
            }
            if (!isDeepEnough(row)) {
                return 2;
            }
            if (!isAllowedByDrought(row)) {
                return 3;
            }
            int lock = row.get(0).lock();
            boolean goesUp = row.get(0).goesUp;
            return makeReady(lock, goesUp) && carry(lock, goesUp) ? 0 : 4;
        }

        void pass() {
            for (Ship ship : ships) {
                ship.wasLocked = false;
            }
            for (int k = 0; k < locks.size(); k++) {
                List<List<Ship>> candidates = new ArrayList<>();
                for (List<Ship> convoy : inOrder(k)) {
                    List<Ship> row = row(convoy);
                    if (!row.isEmpty() && isDeepEnough(row) && isAllowedByDrought(row)
                            && convoy.stream().noneMatch(ship -> ship.wasLocked)) {
                        candidates.add(convoy);
                    }
                }
                for (List<Ship> convoy : candidates) {
                    if (makeReady(k, convoy.get(0).goesUp)) {
                        if (carry(k, convoy.get(0).goesUp)) {
                            lockRow(k, convoy);
                        }
                        break;
                    }
                }
            }
            inflow += settings[2];
            reaches.get(0).water += settings[2];
            spill();
            for (Ship ship : ships) {
                ship.waited += ship.wasLocked ? 0 : 1;
            }
            tick++;
        }

        private void lockRow(int k, List<Ship> convoy) {
            List<Ship> row = row(convoy);
            convoys.remove(convoy);
            List<Ship> others = new ArrayList<>(convoy.subList(row.size(), convoy.size()));
            if (!others.isEmpty()) {
                convoys.add(others);
            }
            locks.get(k).ships += row.size();
            locks.get(k).lockings++;
            boolean goesUp = row.get(0).goesUp;
            int to = row.get(0).reach + (goesUp ? -1 : 1);
            boolean leaves = to == (goesUp ? 0 : reaches.size() - 1);
            for (Ship ship : row) {
                ship.reach = leaves ? -1 : to;
                ship.leftAt = leaves ? tick : -1;
                ship.waited = 0;
                ship.wasLocked = true;
            }
            if (!leaves) {
                convoys.add(row);
            }
        }

        private void spill() {
            for (int k = 0; k < reaches.size(); k++) {
                Reach reach = reaches.get(k);
                if (reach.level() > reach.normal) {
                    int excess = reach.water - reach.area * reach.normal;
                    reach.water -= excess;
                    if (k + 1 < reaches.size()) {
                        reaches.get(k + 1).water += excess;
                    } else {
                        outflow += excess;
                    }
                }
            }
        }
    }

    private Canal canal = new Canal();
    private Canal snapshot;
    private final List<Canal> changes = new ArrayList<>();
    private String text = "";
    private int fault = -1;
    private int reason;

    private static void argument(boolean isGood) {
        if (!isGood) {
            throw new IllegalArgumentException();
        }
    }

    private static void state(boolean isGood) {
        if (!isGood) {
            throw new IllegalStateException();
        }
    }

    private static void element(boolean isThere) {
        if (!isThere) {
            throw new NoSuchElementException();
        }
    }

    private static void index(int index, List<?> list) {
        if (index < 0 || index >= list.size()) {
            throw new IndexOutOfBoundsException();
        }
    }

    private void refuseIf(boolean applies, int why) {
        if (applies) {
            reason = why;
            throw new UnsupportedOperationException();
        }
    }

    private void change() {
        changes.add(canal.copy());
        if (changes.size() > 8) {
            changes.remove(0);
        }
    }

    int addReach(int area, int level, int length, int chamber, int basins) {
        argument(area >= 1 && area <= 9 && level >= 10 && level <= 99);
        if (!canal.reaches.isEmpty()) {
            argument(length >= 1 && length <= 9 && chamber >= 4 && chamber <= 60 && basins >= 0 && basins <= 3);
        }
        state(canal.reaches.size() != 5 && canal.ships.isEmpty());
        change();
        if (!canal.reaches.isEmpty()) {
            Lock lock = new Lock();
            lock.length = length;
            lock.chamber = chamber;
            lock.basins = new boolean[basins];
            canal.locks.add(lock);
        }
        Reach reach = new Reach();
        reach.area = area;
        reach.normal = level;
        reach.water = area * level;
        canal.reaches.add(reach);
        canal.made += reach.water;
        return canal.reaches.size() - 1;
    }

    int set(int setting, int value) {
        index(setting, List.of(1, 2, 3));
        int[] most = {20, 50, 99};
        argument(value <= most[setting] && value >= (setting == 0 ? 1 : 0));
        change();
        int before = canal.settings[setting];
        canal.settings[setting] = value;
        return before;
    }

    int reach(int number, int what) {
        index(number, canal.reaches);
        argument(what >= 0 && what <= 5);
        Reach reach = canal.reaches.get(number);
        int ships = (int) canal.ships.stream().filter(ship -> ship.reach == number).count();
        return new int[] {reach.area, reach.normal, reach.water, reach.level(), reach.dryness(), ships}[what];
    }

    int lock(int number, int what) {
        index(number, canal.locks);
        argument(what >= 0 && what <= 9);
        Lock lock = canal.locks.get(number);
        return new int[] {lock.length, lock.chamber, lock.basins.length, lock.chamber / 4, lock.isFull ? 1 : 0,
            lock.fullBasins(), lock.water(), canal.inOrder(number).size(), lock.ships, lock.lockings}[what];
    }

    int addShip(int size, int draught, int rank, boolean goesUp) {
        argument(size >= 1 && size <= 9 && draught >= 1 && draught <= 99 && rank >= 0 && rank <= 3);
        refuseIf(canal.ships.size() == 16, 4);
        refuseIf(canal.reaches.size() < 2, 5);
        change();
        return makeShip(size, draught, rank, goesUp);
    }

    private int makeShip(int size, int draught, int rank, boolean goesUp) {
        Ship ship = new Ship();
        ship.number = canal.ships.size();
        ship.size = size;
        ship.draught = draught;
        ship.rank = rank;
        ship.goesUp = goesUp;
        ship.reach = goesUp ? canal.reaches.size() - 1 : 0;
        canal.ships.add(ship);
        canal.convoys.add(new ArrayList<>(List.of(ship)));
        return ship.number;
    }

    void append(char c) {
        state(text.length() < 50);
        text += c;
    }

    int arrive() {
        String read = text;
        text = "";
        fault = faultOf(read);
        argument(fault == -1);
        String[] arrivals = read.split(",");
        refuseIf(canal.ships.size() + arrivals.length > 16, 4);
        refuseIf(canal.reaches.size() < 2, 5);
        change();
        for (String arrival : arrivals) {
            int r = arrival.indexOf('r');
            int draught = Integer.parseInt(arrival.substring(3, r < 0 ? arrival.length() : r));
            makeShip(arrival.charAt(1) - '0', draught, r < 0 ? 0 : arrival.charAt(r + 1) - '0',
                    arrival.charAt(0) == 'u');
        }
        return arrivals.length;
    }

    private static int faultOf(String text) {
        for (int i = 1; i <= text.length(); i++) {
            Matcher matcher = ARRIVALS.matcher(text.substring(0, i));
            if (!matcher.matches() && !matcher.hitEnd()) {
                return i - 1;
            }
        }
        return ARRIVALS.matcher(text).matches() ? -1 : text.length();
    }

    int faultPosition() {
        return fault;
    }

    private boolean isShip(int ship) {
        return ship >= 0 && ship < canal.ships.size();
    }

    int join(int ship, int other) {
        refuseIf(!isShip(ship) || !isShip(other), 1);
        Ship one = canal.ships.get(ship);
        Ship two = canal.ships.get(other);
        refuseIf(one == two || canal.convoyOf(one).contains(two), 2);
        refuseIf(one.hasLeft() || two.hasLeft() || one.lock() != two.lock() || one.goesUp != two.goesUp, 3);
        change();
        List<Ship> behind = canal.convoyOf(one);
        canal.convoys.remove(behind);
        canal.convoyOf(two).addAll(behind);
        return canal.convoyOf(two).size();
    }

    int part(int number) {
        refuseIf(!isShip(number), 1);
        Ship ship = canal.ships.get(number);
        refuseIf(canal.convoyOf(ship).size() == 1, 6);
        change();
        List<Ship> convoy = canal.convoyOf(ship);
        convoy.remove(ship);
        canal.convoys.add(new ArrayList<>(List.of(ship)));
        return convoy.size();
    }

    int refusal() {
        element(reason != 0);
        return reason;
    }

    int ship(int number, int what) {
        index(number, canal.ships);
        argument(what >= 0 && what <= 9);
        Ship ship = canal.ships.get(number);
        List<Ship> convoy = canal.convoyOf(ship);
        return new int[] {ship.size, ship.draught, ship.rank, ship.goesUp ? 1 : 0, ship.reach, ship.lock(),
            ship.hasLeft() ? 0 : ship.waited, convoy.get(0).number, convoy.size(), ship.leftAt}[what];
    }

    int convoy(int number, int index) {
        index(number, canal.ships);
        List<Ship> convoy = canal.convoyOf(canal.ships.get(number));
        element(index >= 0 && index < convoy.size());
        return convoy.get(index).number;
    }

    int waiting(int lock, int index) {
        index(lock, canal.locks);
        List<List<Ship>> convoys = canal.inOrder(lock);
        element(index >= 0 && index < convoys.size());
        return convoys.get(index).get(0).number;
    }

    int priority(int number) {
        index(number, canal.ships);
        state(!canal.ships.get(number).hasLeft());
        return canal.priority(canal.convoyOf(canal.ships.get(number)));
    }

    int hindrance(int number) {
        index(number, canal.ships);
        state(!canal.ships.get(number).hasLeft());
        Canal copy = canal.copy();
        return copy.hindrance(copy.convoyOf(copy.ships.get(number)));
    }

    int pass(int ticks) {
        argument(ticks >= 1 && ticks <= 40 && canal.tick + ticks <= 500);
        state(canal.reaches.size() >= 2);
        change();
        int before = account(2);
        for (int i = 0; i < ticks; i++) {
            canal.pass();
        }
        return account(2) - before;
    }

    int tick() {
        return canal.tick;
    }

    int untilLeft(int ship, int ticks) {
        index(ship, canal.ships);
        argument(ticks >= 1 && ticks <= 40);
        state(!canal.ships.get(ship).hasLeft());
        Canal copy = canal.copy();
        for (int i = 1; i <= ticks && copy.tick < 500; i++) {
            copy.pass();
            if (copy.ships.get(ship).hasLeft()) {
                return i;
            }
        }
        throw new NoSuchElementException();
    }

    int account(int what) {
        argument(what >= 0 && what <= 10);
        int left = (int) canal.ships.stream().filter(Ship::hasLeft).count();
        int inReaches = canal.reaches.stream().mapToInt(reach -> reach.water).sum();
        int inLocks = canal.locks.stream().mapToInt(Lock::water).sum();
        int lockings = canal.locks.stream().mapToInt(lock -> lock.lockings).sum();
        return new int[] {canal.reaches.size(), canal.ships.size(), left, canal.convoys.size(), inReaches, inLocks,
            canal.inflow, canal.outflow, lockings, canal.fromBasins, canal.made}[what];
    }

    double meanLocked() {
        int lockings = account(8);
        if (lockings == 0) {
            throw new ArithmeticException();
        }
        return (double) canal.locks.stream().mapToInt(lock -> lock.ships).sum() / (double) lockings;
    }

    int undo() {
        state(!changes.isEmpty());
        canal = changes.remove(changes.size() - 1);
        return changes.size();
    }

    void save() {
        snapshot = canal.copy();
    }

    void restore() {
        state(snapshot != null);
        canal = snapshot.copy();
        changes.clear();
    }
}
