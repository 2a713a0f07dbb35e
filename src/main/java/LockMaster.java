import java.util.NoSuchElementException;

/** A master of canal locks; ../shared/DOC.md says what each call promises. */
public final class LockMaster {
    private static final int MOST_REACHES = 5;
    private static final int MOST_LOCKS = 4;
    private static final int MOST_SHIPS = 16;
    private static final int MOST_CHARACTERS = 50;
    private static final int MOST_CHANGES = 8;
    private static final int MOST_TICKS = 40;
    private static final int LAST_TICK = 500;
    private static final int GREATEST_RANK = 3;
    private static final int NONE = -1;

    private static final int NOT_REFUSED = 0;
    private static final int NO_SUCH_SHIP = 1;
    private static final int SAME_CONVOY = 2;
    private static final int NOT_TOGETHER = 3;
    private static final int TOO_MANY_SHIPS = 4;
    private static final int TOO_FEW_REACHES = 5;
    private static final int ALONE = 6;

    private static final int FREE = 0;
    private static final int NO_ROW = 1;
    private static final int TOO_SHALLOW = 2;
    private static final int TOO_DRY = 3;
    private static final int NO_CHAMBER = 4;

    private final Canal canal = new Canal();
    private final Canal forecast = new Canal();
    private final Canal snapshot = new Canal();
    private final Changes changes = new Changes();
    private final ArrivalText text = new ArrivalText();
    private boolean hasSnapshot = false;
    private int fault = NONE;
    private int reason = NOT_REFUSED;

    public LockMaster() {
    }

    // The canal.

    public int addReach(int area, int level, int length, int chamber, int basins)
            throws IllegalArgumentException, IllegalStateException {
        requireArgument(isWithin(area, 1, 9) && isWithin(level, 10, 99));
        boolean hasLock = canal.reaches.count > 0;
        requireArgument(!hasLock
                || isWithin(length, 1, 9) && isWithin(chamber, 4, 60) && isWithin(basins, 0, 3));
        requireState(canal.reaches.count < MOST_REACHES && canal.fleet.count == 0);
        changes.keep(canal);
        if (hasLock) {
            canal.locks.make(length, chamber, basins);
        }
        return canal.makeReach(area, level);
    }

    public int set(int setting, int value) throws IndexOutOfBoundsException, IllegalArgumentException {
        requireIndex(setting, 3);
        requireArgument(isWithin(value, setting == 0 ? 1 : 0, mostOfSetting(setting)));
        changes.keep(canal);
        return canal.change(setting, value);
    }

    public int reach(int reach, int what) throws IndexOutOfBoundsException, IllegalArgumentException {
        requireIndex(reach, canal.reaches.count);
        requireArgument(isWithin(what, 0, 5));
        switch (what) {
            case 0: return canal.reaches.area.at(reach);
            case 1: return canal.reaches.normal.at(reach);
            case 2: return canal.reaches.water.at(reach);
            case 3: return canal.reaches.levelOf(reach);
            case 4: return canal.reaches.drynessOf(reach);
            default: return canal.fleet.shipsInReach(reach);
        }
    }

    public int lock(int lock, int what) throws IndexOutOfBoundsException, IllegalArgumentException {
        requireIndex(lock, canal.locks.count);
        requireArgument(isWithin(what, 0, 9));
        switch (what) {
            case 0: return canal.locks.length.at(lock);
            case 1: return canal.locks.chamber.at(lock);
            case 2: return canal.locks.basins.at(lock);
            case 3: return canal.locks.quarter.at(lock);
            case 4: return canal.locks.full.at(lock);
            case 5: return canal.locks.fullBasins.at(lock);
            case 6: return canal.locks.waterIn(lock);
            case 7: return canal.fleet.convoysAt(lock);
            case 8: return canal.locks.lockedShips.at(lock);
            default: return canal.locks.lockings.at(lock);
        }
    }

    // Ships and convoys.

    public int addShip(int size, int draught, int rank, boolean goesUp)
            throws IllegalArgumentException, UnsupportedOperationException {
        requireArgument(isWithin(size, 1, 9) && isWithin(draught, 1, 99) && isWithin(rank, 0, GREATEST_RANK));
        refuseFor(refusalOfShips(1));
        changes.keep(canal);
        return canal.makeShip(size, draught, rank, goesUp);
    }

    public void append(char c) throws IllegalStateException {
        requireState(text.length < MOST_CHARACTERS);
        text.put(c);
    }

    public int arrive() throws IllegalArgumentException, UnsupportedOperationException {
        fault = text.read();
        text.length = 0;
        requireArgument(fault == NONE);
        refuseFor(refusalOfShips(text.arrivals));
        changes.keep(canal);
        for (int i = 0; i < text.arrivals; i++) {
            canal.makeShip(text.sizes.at(i), text.draughts.at(i), text.ranks.at(i), text.ups.at(i) == 1);
        }
        return text.arrivals;
    }

    public int faultPosition() {
        return fault;
    }

    public int join(int ship, int other) throws UnsupportedOperationException {
        refuseFor(refusalOfJoin(ship, other));
        changes.keep(canal);
        canal.fleet.joinBehind(canal.fleet.first.at(other), canal.fleet.first.at(ship));
        return canal.fleet.shipsInConvoy(other);
    }

    public int part(int ship) throws UnsupportedOperationException {
        refuseFor(refusalOfPart(ship));
        changes.keep(canal);
        int together = canal.fleet.shipsInConvoy(ship);
        canal.fleet.takeOut(ship);
        return together - 1;
    }

    public int refusal() throws NoSuchElementException {
        requireElement(reason != NOT_REFUSED);
        return reason;
    }

    public int ship(int ship, int what) throws IndexOutOfBoundsException, IllegalArgumentException {
        requireIndex(ship, canal.fleet.count);
        requireArgument(isWithin(what, 0, 9));
        switch (what) {
            case 0: return canal.fleet.size.at(ship);
            case 1: return canal.fleet.draught.at(ship);
            case 2: return canal.fleet.rank.at(ship);
            case 3: return canal.fleet.up.at(ship);
            case 4: return canal.fleet.reachOf(ship);
            case 5: return canal.fleet.waitsAt.at(ship);
            case 6: return canal.fleet.hasLeft(ship) ? 0 : canal.waitedBy(ship);
            case 7: return canal.fleet.first.at(ship);
            case 8: return canal.fleet.shipsInConvoy(ship);
            default: return canal.fleet.leftAt.at(ship);
        }
    }

    public int convoy(int ship, int index) throws IndexOutOfBoundsException, NoSuchElementException {
        requireIndex(ship, canal.fleet.count);
        int found = canal.fleet.shipOfConvoy(ship, index);
        requireElement(found != NONE);
        return found;
    }

    public int waiting(int lock, int index) throws IndexOutOfBoundsException, NoSuchElementException {
        requireIndex(lock, canal.locks.count);
        int found = canal.convoyInOrder(lock, index);
        requireElement(found != NONE);
        return found;
    }

    public int priority(int ship) throws IndexOutOfBoundsException, IllegalStateException {
        requireIndex(ship, canal.fleet.count);
        requireState(!canal.fleet.hasLeft(ship));
        return canal.priorityOf(canal.fleet.first.at(ship));
    }

    public int hindrance(int ship) throws IndexOutOfBoundsException, IllegalStateException {
        requireIndex(ship, canal.fleet.count);
        requireState(!canal.fleet.hasLeft(ship));
        return canal.hindranceOf(canal.fleet.first.at(ship));
    }

    // Time and accounts.

    public int pass(int ticks) throws IllegalArgumentException, IllegalStateException {
        requireArgument(isWithin(ticks, 1, MOST_TICKS) && ticks <= LAST_TICK - canal.tick);
        requireState(canal.reaches.count >= 2);
        changes.keep(canal);
        int before = canal.fleet.shipsThatLeft();
        for (int i = 0; i < ticks; i++) {
            canal.goOneTick();
        }
        return canal.fleet.shipsThatLeft() - before;
    }

    public int tick() {
        return canal.tick;
    }

    public int untilLeft(int ship, int ticks)
            throws IndexOutOfBoundsException, IllegalArgumentException, IllegalStateException, NoSuchElementException {
        requireIndex(ship, canal.fleet.count);
        requireArgument(isWithin(ticks, 1, MOST_TICKS));
        requireState(!canal.fleet.hasLeft(ship));
        forecast.copyFrom(canal);
        int gone = 0;
        while (gone < ticks && forecast.tick < LAST_TICK && !forecast.fleet.hasLeft(ship)) {
            forecast.goOneTick();
            gone++;
        }
        requireElement(forecast.fleet.hasLeft(ship));
        return gone;
    }

    public int account(int what) throws IllegalArgumentException {
        requireArgument(isWithin(what, 0, 10));
        switch (what) {
            case 0: return canal.reaches.count;
            case 1: return canal.fleet.count;
            case 2: return canal.fleet.shipsThatLeft();
            case 3: return canal.waitingConvoys();
            case 4: return canal.reaches.water.sum();
            case 5: return canal.locks.allWater();
            case 6: return canal.inflowSoFar;
            case 7: return canal.outflowSoFar;
            case 8: return canal.locks.lockings.sum();
            case 9: return canal.locks.basinWater;
            default: return canal.waterAtFirst;
        }
    }

    public double meanLocked() throws ArithmeticException {
        int lockings = canal.locks.lockings.sum();
        if (lockings == 0) {
            throw new ArithmeticException("there was no locking");
        }
        return (double) canal.locks.lockedShips.sum() / (double) lockings;
    }

    public int undo() throws IllegalStateException {
        requireState(changes.count > 0);
        changes.takeBack(canal);
        return changes.count;
    }

    public void save() {
        snapshot.copyFrom(canal);
        hasSnapshot = true;
    }

    public void restore() throws IllegalStateException {
        requireState(hasSnapshot);
        canal.copyFrom(snapshot);
        changes.forget();
    }

    // What the calls have in common.

    private static boolean isWithin(int number, int least, int most) {
        return number >= least && number <= most;
    }

    private static int mostOfSetting(int setting) {
        return setting == 0 ? 20 : setting == 1 ? 50 : 99;
    }

    private static void requireIndex(int index, int count) {
        if (index < 0 || index >= count) {
            throw new IndexOutOfBoundsException("there is no such number");
        }
    }

    private static void requireArgument(boolean isGood) {
        if (!isGood) {
            throw new IllegalArgumentException("an argument or the text is not allowed");
        }
    }

    private static void requireState(boolean isGood) {
        if (!isGood) {
            throw new IllegalStateException("the state does not allow this call");
        }
    }

    private static void requireElement(boolean isThere) {
        if (!isThere) {
            throw new NoSuchElementException("there is no such element");
        }
    }

    private void refuseFor(int why) {
        if (why != NOT_REFUSED) {
            reason = why;
            throw new UnsupportedOperationException("refused; refusal() tells the reason");
        }
    }

    private int refusalOfShips(int more) {
        if (canal.fleet.count + more > MOST_SHIPS) {
            return TOO_MANY_SHIPS;
        }
        return canal.reaches.count < 2 ? TOO_FEW_REACHES : NOT_REFUSED;
    }

    private int refusalOfJoin(int ship, int other) {
        Fleet fleet = canal.fleet;
        if (!fleet.has(ship) || !fleet.has(other)) {
            return NO_SUCH_SHIP;
        }
        if (fleet.first.at(ship) == fleet.first.at(other)) {
            return SAME_CONVOY;
        }
        boolean areTogether = !fleet.hasLeft(ship) && fleet.waitsAt.at(ship) == fleet.waitsAt.at(other)
                && fleet.up.at(ship) == fleet.up.at(other);
        return areTogether ? NOT_REFUSED : NOT_TOGETHER;
    }

    private int refusalOfPart(int ship) {
        if (!canal.fleet.has(ship)) {
            return NO_SUCH_SHIP;
        }
        return canal.fleet.shipsInConvoy(ship) == 1 ? ALONE : NOT_REFUSED;
    }

    /** A row of numbers; beyond its ends it reads 0 and writes nothing, so that no index can make the machine throw. */
    private static final class Row {
        private final int[] numbers;

        Row(int length) {
            numbers = new int[length < 0 ? 0 : length];
        }

        int at(int index) {
            return index < 0 || index >= numbers.length ? 0 : numbers[index];
        }

        void put(int index, int number) {
            if (index >= 0 && index < numbers.length) {
                numbers[index] = number;
            }
        }

        void add(int index, int number) {
            put(index, at(index) + number);
        }

        int sum() {
            int sum = 0;
            for (int i = 0; i < numbers.length; i++) {
                sum += numbers[i];
            }
            return sum;
        }

        void copyFrom(Row other) {
            for (int i = 0; i < numbers.length; i++) {
                numbers[i] = other.at(i);
            }
        }
    }

    private static final class Reaches {
        private final Row area = new Row(MOST_REACHES);
        private final Row normal = new Row(MOST_REACHES);
        private final Row water = new Row(MOST_REACHES);
        private int count = 0;

        int make(int newArea, int level) {
            area.put(count, newArea);
            normal.put(count, level);
            water.put(count, newArea * level);
            count++;
            return count - 1;
        }

        int levelOf(int reach) {
            int divisor = area.at(reach);
            return divisor < 1 ? 0 : water.at(reach) / divisor;
        }

        /** A level is at least some number if the water is at least the area times this number. */
        int drynessOf(int reach) {
            int lacking = area.at(reach) * normal.at(reach) - water.at(reach);
            return lacking <= 2 * area.at(reach) ? 0 : lacking <= 6 * area.at(reach) ? 1 : 2;
        }

        /** Returns the water that leaves the canal. */
        int spill() {
            int coming = 0;
            for (int i = 0; i < count; i++) {
                water.add(i, coming);
                coming = 0;
                if (levelOf(i) > normal.at(i)) {
                    coming = water.at(i) - area.at(i) * normal.at(i);
                    water.add(i, -coming);
                }
            }
            return coming;
        }

        void copyFrom(Reaches other) {
            area.copyFrom(other.area);
            normal.copyFrom(other.normal);
            water.copyFrom(other.water);
            count = other.count;
        }
    }

    private static final class Locks {
        private final Row length = new Row(MOST_LOCKS);
        private final Row chamber = new Row(MOST_LOCKS);
        private final Row quarter = new Row(MOST_LOCKS);
        private final Row basins = new Row(MOST_LOCKS);
        private final Row full = new Row(MOST_LOCKS);
        private final Row fullBasins = new Row(MOST_LOCKS);
        private final Row lockedShips = new Row(MOST_LOCKS);
        private final Row lockings = new Row(MOST_LOCKS);
        private int basinWater = 0;
        private int count = 0;

        void make(int newLength, int newChamber, int newBasins) {
            length.put(count, newLength);
            chamber.put(count, newChamber);
            quarter.put(count, newChamber / 4);
            basins.put(count, newBasins);
            count++;
        }

        boolean isFull(int lock) {
            return full.at(lock) == 1;
        }

        int inBasins(int lock) {
            return fullBasins.at(lock) * quarter.at(lock);
        }

        int waterIn(int lock) {
            return full.at(lock) * chamber.at(lock) + inBasins(lock);
        }

        int allWater() {
            int sum = 0;
            for (int i = 0; i < count; i++) {
                sum += waterIn(i);
            }
            return sum;
        }

        /** What the reach above must give, so that the chamber, empty now, becomes full. */
        int lackingToFill(int lock) {
            return chamber.at(lock) - inBasins(lock);
        }

        void fill(int lock) {
            basinWater += inBasins(lock);
            fullBasins.put(lock, 0);
            full.put(lock, 1);
        }

        /** What is left for the reach below; three quarters never exceed the chamber, so no basin stays empty. */
        int leftBeyondBasins(int lock) {
            int emptyBasins = basins.at(lock) - fullBasins.at(lock);
            return chamber.at(lock) - emptyBasins * quarter.at(lock);
        }

        void empty(int lock) {
            fullBasins.put(lock, basins.at(lock));
            full.put(lock, 0);
        }

        void copyFrom(Locks other) {
            length.copyFrom(other.length);
            chamber.copyFrom(other.chamber);
            quarter.copyFrom(other.quarter);
            basins.copyFrom(other.basins);
            full.copyFrom(other.full);
            fullBasins.copyFrom(other.fullBasins);
            lockedShips.copyFrom(other.lockedShips);
            lockings.copyFrom(other.lockings);
            basinWater = other.basinWater;
            count = other.count;
        }
    }

    /** The ships; a convoy is a chain of them that begins at the ship that is first of them all. */
    private static final class Fleet {
        private final Row size = new Row(MOST_SHIPS);
        private final Row draught = new Row(MOST_SHIPS);
        private final Row rank = new Row(MOST_SHIPS);
        private final Row up = new Row(MOST_SHIPS);
        private final Row waitsAt = new Row(MOST_SHIPS);
        private final Row since = new Row(MOST_SHIPS);
        private final Row leftAt = new Row(MOST_SHIPS);
        private final Row first = new Row(MOST_SHIPS);
        private final Row next = new Row(MOST_SHIPS);
        private int count = 0;

        int make(int newSize, int newDraught, int newRank, boolean goesUp) {
            int ship = count;
            size.put(ship, newSize);
            draught.put(ship, newDraught);
            rank.put(ship, newRank);
            up.put(ship, goesUp ? 1 : 0);
            leftAt.put(ship, NONE);
            first.put(ship, ship);
            next.put(ship, NONE);
            count++;
            return ship;
        }

        boolean has(int ship) {
            return ship >= 0 && ship < count;
        }

        boolean hasLeft(int ship) {
            return waitsAt.at(ship) == NONE;
        }

        boolean goesUp(int ship) {
            return up.at(ship) == 1;
        }

        int reachOf(int ship) {
            return hasLeft(ship) ? NONE : waitsAt.at(ship) + up.at(ship);
        }

        boolean isFirstAt(int ship, int lock) {
            return first.at(ship) == ship && waitsAt.at(ship) == lock;
        }

        int convoysAt(int lock) {
            int convoys = 0;
            for (int i = 0; i < count; i++) {
                convoys += isFirstAt(i, lock) ? 1 : 0;
            }
            return convoys;
        }

        int shipsInReach(int reach) {
            int ships = 0;
            for (int i = 0; i < count; i++) {
                ships += reachOf(i) == reach ? 1 : 0;
            }
            return ships;
        }

        int shipsThatLeft() {
            return shipsInReach(NONE);
        }

        int shipsInConvoy(int ship) {
            int ships = 0;
            for (int i = first.at(ship); i != NONE && ships < MOST_SHIPS; i = next.at(i)) {
                ships++;
            }
            return ships;
        }

        int shipOfConvoy(int ship, int index) {
            int passed = 0;
            for (int i = first.at(ship); i != NONE && passed < MOST_SHIPS; i = next.at(i)) {
                if (passed == index) {
                    return i;
                }
                passed++;
            }
            return NONE;
        }

        int greatestRank(int head) {
            int greatest = 0;
            int passed = 0;
            for (int i = head; i != NONE && passed < MOST_SHIPS; i = next.at(i)) {
                greatest = Math.max(greatest, rank.at(i));
                passed++;
            }
            return greatest;
        }

        void joinBehind(int head, int behind) {
            next.put(shipOfConvoy(head, shipsInConvoy(head) - 1), behind);
            nameFirst(behind, head);
        }

        void takeOut(int ship) {
            int head = first.at(ship);
            int behind = next.at(ship);
            if (head == ship) {
                nameFirst(behind, behind);
            } else {
                next.put(shipAheadOf(ship), behind);
            }
            first.put(ship, ship);
            next.put(ship, NONE);
        }

        /** Makes the first ships a convoy of their own, and the others another one. */
        void cutBehind(int head, int row) {
            int behind = shipOfConvoy(head, row);
            next.put(shipOfConvoy(head, row - 1), NONE);
            nameFirst(behind, behind);
        }

        void leave(int ship, int tick) {
            waitsAt.put(ship, NONE);
            leftAt.put(ship, tick);
            first.put(ship, ship);
            next.put(ship, NONE);
        }

        private int shipAheadOf(int ship) {
            for (int i = 0; i < count; i++) {
                if (next.at(i) == ship) {
                    return i;
                }
            }
            return NONE;
        }

        private void nameFirst(int from, int head) {
            int passed = 0;
            for (int i = from; i != NONE && passed < MOST_SHIPS; i = next.at(i)) {
                first.put(i, head);
                passed++;
            }
        }

        void copyFrom(Fleet other) {
            size.copyFrom(other.size);
            draught.copyFrom(other.draught);
            rank.copyFrom(other.rank);
            up.copyFrom(other.up);
            waitsAt.copyFrom(other.waitsAt);
            since.copyFrom(other.since);
            leftAt.copyFrom(other.leftAt);
            first.copyFrom(other.first);
            next.copyFrom(other.next);
            count = other.count;
        }
    }

    /** The row of a convoy that would go, as it was when it was looked at. */
    private static final class GoingRow {
        private int ships = 0;
        private int sizes = 0;
        private int draught = 0;
        private int leastRank = 0;

        void lookAt(Fleet fleet, int head, int length) {
            ships = 0;
            sizes = 0;
            draught = 0;
            leastRank = GREATEST_RANK;
            for (int i = head; i != NONE && ships < MOST_SHIPS; i = fleet.next.at(i)) {
                if (sizes + fleet.size.at(i) > length) {
                    return;
                }
                ships++;
                sizes += fleet.size.at(i);
                draught = Math.max(draught, fleet.draught.at(i));
                leastRank = Math.min(leastRank, fleet.rank.at(i));
            }
        }

        boolean isHeldBack(int dryness, int length, boolean hasWaitedGrace) {
            if (dryness == 2) {
                return leastRank < GREATEST_RANK;
            }
            return dryness == 1 && 2 * sizes < length && !hasWaitedGrace;
        }
    }

    /** All that undo, save and forecasts look at: the water, the ships, the settings, the time and the accounts. */
    private static final class Canal {
        private final Reaches reaches = new Reaches();
        private final Locks locks = new Locks();
        private final Fleet fleet = new Fleet();
        private final GoingRow going = new GoingRow();
        private int patience = 5;
        private int grace = 20;
        private int inflow = 0;
        private int tick = 0;
        private int inflowSoFar = 0;
        private int outflowSoFar = 0;
        private int waterAtFirst = 0;

        int makeReach(int area, int level) {
            waterAtFirst += area * level;
            return reaches.make(area, level);
        }

        int makeShip(int size, int draught, int rank, boolean goesUp) {
            int ship = fleet.make(size, draught, rank, goesUp);
            fleet.waitsAt.put(ship, goesUp ? locks.count - 1 : 0);
            fleet.since.put(ship, tick);
            return ship;
        }

        /** Returns the value before. */
        int change(int setting, int value) {
            int before = setting == 0 ? patience : setting == 1 ? grace : inflow;
            if (setting == 0) {
                patience = value;
            } else if (setting == 1) {
                grace = value;
            } else {
                inflow = value;
            }
            return before;
        }

        int waitedBy(int ship) {
            return tick - fleet.since.at(ship);
        }

        int priorityOf(int head) {
            int bonus = patience < 1 ? 0 : waitedBy(head) / patience;
            return 4 * fleet.greatestRank(head) + bonus;
        }

        int waitingConvoys() {
            int convoys = 0;
            for (int i = 0; i < locks.count; i++) {
                convoys += fleet.convoysAt(i);
            }
            return convoys;
        }

        int convoyInOrder(int lock, int index) {
            for (int i = 0; i < fleet.count; i++) {
                if (fleet.isFirstAt(i, lock) && convoysAheadOf(i, lock) == index) {
                    return i;
                }
            }
            return NONE;
        }

        private int convoysAheadOf(int head, int lock) {
            int ahead = 0;
            for (int i = 0; i < fleet.count; i++) {
                ahead += fleet.isFirstAt(i, lock) && comesBefore(i, head) ? 1 : 0;
            }
            return ahead;
        }

        private boolean comesBefore(int head, int other) {
            int difference = priorityOf(head) - priorityOf(other);
            return difference > 0 || difference == 0 && head < other;
        }

        int hindranceOf(int head) {
            int lock = fleet.waitsAt.at(head);
            int byRules = hindranceByRules(head, lock);
            if (byRules != FREE) {
                return byRules;
            }
            boolean canGo = fleet.goesUp(head) ? canFillForUp(lock) : canBeReadyForDown(lock);
            return canGo ? FREE : NO_CHAMBER;
        }

        private int hindranceByRules(int head, int lock) {
            int length = locks.length.at(lock);
            going.lookAt(fleet, head, length);
            if (going.ships == 0) {
                return NO_ROW;
            }
            if (reaches.levelOf(lock) < going.draught || reaches.levelOf(lock + 1) < going.draught) {
                return TOO_SHALLOW;
            }
            boolean isHeldBack = going.isHeldBack(reaches.drynessOf(lock), length, waitedBy(head) >= grace);
            return isHeldBack ? TOO_DRY : FREE;
        }

        private boolean canBeReadyForDown(int lock) {
            return locks.isFull(lock) || reaches.water.at(lock) >= locks.lackingToFill(lock);
        }

        /** A full chamber would be emptied ahead of such a row, and all its basins be full then. */
        private boolean canFillForUp(int lock) {
            int inBasins = locks.basins.at(lock) * locks.quarter.at(lock);
            int lacking = locks.isFull(lock) ? locks.chamber.at(lock) - inBasins : locks.lackingToFill(lock);
            return reaches.water.at(lock) >= lacking;
        }

        void goOneTick() {
            for (int i = 0; i < locks.count; i++) {
                takeTurn(i);
            }
            inflowSoFar += inflow;
            reaches.water.add(0, inflow);
            outflowSoFar += reaches.spill();
            tick++;
        }

        private void takeTurn(int lock) {
            int head = chosenConvoy(lock, canBeReadyForDown(lock));
            if (head == NONE) {
                return;
            }
            boolean goesUp = fleet.goesUp(head);
            if (locks.isFull(lock) == goesUp) {
                turnChamber(lock);
            }
            if (goesUp && !canFillForUp(lock)) {
                return;
            }
            turnChamber(lock);
            going.lookAt(fleet, head, locks.length.at(lock));
            lockRow(head, going.ships, lock);
        }

        /** Of the same priority the lowest first ship is chosen, as the ships are looked at in ascending order. */
        private int chosenConvoy(int lock, boolean canBeReadyForDown) {
            int chosen = NONE;
            int greatest = 0;
            for (int i = 0; i < fleet.count; i++) {
                boolean canBeChosen = fleet.isFirstAt(i, lock) && !wasLockedNow(i)
                        && (canBeReadyForDown || fleet.goesUp(i)) && hindranceByRules(i, lock) == FREE;
                if (canBeChosen && (chosen == NONE || priorityOf(i) > greatest)) {
                    chosen = i;
                    greatest = priorityOf(i);
                }
            }
            return chosen;
        }

        /** A ship that was locked begins to wait behind the tick that still goes by. */
        private boolean wasLockedNow(int ship) {
            return fleet.since.at(ship) > tick;
        }

        private void turnChamber(int lock) {
            if (locks.isFull(lock)) {
                reaches.water.add(lock + 1, locks.leftBeyondBasins(lock));
                locks.empty(lock);
            } else {
                reaches.water.add(lock, -locks.lackingToFill(lock));
                locks.fill(lock);
            }
        }

        private void lockRow(int head, int row, int lock) {
            fleet.cutBehind(head, row);
            int ship = head;
            for (int i = 0; i < row; i++) {
                int behind = fleet.next.at(ship);
                moveOn(ship);
                ship = behind;
            }
            locks.lockedShips.add(lock, row);
            locks.lockings.add(lock, 1);
        }

        private void moveOn(int ship) {
            int nextLock = fleet.waitsAt.at(ship) + (fleet.goesUp(ship) ? -1 : 1);
            if (nextLock >= 0 && nextLock < locks.count) {
                fleet.waitsAt.put(ship, nextLock);
                fleet.since.put(ship, tick + 1);
            } else {
                fleet.leave(ship, tick);
            }
        }

        void copyFrom(Canal other) {
            reaches.copyFrom(other.reaches);
            locks.copyFrom(other.locks);
            fleet.copyFrom(other.fleet);
            patience = other.patience;
            grace = other.grace;
            inflow = other.inflow;
            tick = other.tick;
            inflowSoFar = other.inflowSoFar;
            outflowSoFar = other.outflowSoFar;
            waterAtFirst = other.waterAtFirst;
        }
    }

    /** The canals before the latest changes, in a ring that is made once. */
    private static final class Changes {
        private final Canal[] kept = new Canal[MOST_CHANGES];
        private int newest = 0;
        private int count = 0;

        Changes() {
            for (int i = 0; i < kept.length; i++) {
                kept[i] = new Canal();
            }
        }

        void keep(Canal canal) {
            newest = newest + 1 < kept.length ? newest + 1 : 0;
            count = Math.min(count + 1, MOST_CHANGES);
            Canal before = newestKept();
            if (before != null) {
                before.copyFrom(canal);
            }
        }

        void takeBack(Canal canal) {
            Canal before = newestKept();
            if (before != null) {
                canal.copyFrom(before);
            }
            newest = newest > 0 ? newest - 1 : kept.length - 1;
            count--;
        }

        void forget() {
            count = 0;
        }

        private Canal newestKept() {
            return newest < 0 || newest >= kept.length ? null : kept[newest];
        }
    }

    /** The text buffer, and the arrivals that were read from it. */
    private static final class ArrivalText {
        /** The shortest arrival and its comma take 5 characters. */
        private static final int MOST_ARRIVALS = MOST_CHARACTERS / 5;

        private static final int FAULT = 0;
        private static final int AT_DIRECTION = 1;
        private static final int AT_SIZE = 2;
        private static final int AT_T = 3;
        private static final int AT_DRAUGHT = 4;
        private static final int IN_DRAUGHT = 5;
        private static final int BEHIND_DRAUGHT = 6;
        private static final int AT_RANK = 7;
        private static final int BEHIND_RANK = 8;

        private final Row characters = new Row(MOST_CHARACTERS);
        private final Row sizes = new Row(MOST_ARRIVALS);
        private final Row draughts = new Row(MOST_ARRIVALS);
        private final Row ranks = new Row(MOST_ARRIVALS);
        private final Row ups = new Row(MOST_ARRIVALS);
        private int length = 0;
        private int arrivals = 0;

        void put(char c) {
            characters.put(length, c);
            length++;
        }

        /** Returns the fault position, or NONE. */
        int read() {
            arrivals = 0;
            int state = AT_DIRECTION;
            for (int i = 0; i < length; i++) {
                state = stateBehind(state, characters.at(i));
                if (state == FAULT) {
                    return i;
                }
            }
            boolean isWhole = state == IN_DRAUGHT || state == BEHIND_DRAUGHT || state == BEHIND_RANK;
            return isWhole ? NONE : length;
        }

        private int stateBehind(int state, int c) {
            int digit = c >= '0' && c <= '9' ? c - '0' : NONE;
            switch (state) {
                case AT_DIRECTION: return c == 'd' || c == 'u' ? begin(c == 'u') : FAULT;
                case AT_SIZE: return digit >= 1 ? take(sizes, digit, AT_T) : FAULT;
                case AT_T: return c == 't' ? AT_DRAUGHT : FAULT;
                case AT_DRAUGHT: return digit >= 1 ? take(draughts, digit, IN_DRAUGHT) : FAULT;
                case IN_DRAUGHT: return digit >= 0 ? take(draughts, digit, BEHIND_DRAUGHT) : stateBehindDraught(c);
                case BEHIND_DRAUGHT: return stateBehindDraught(c);
                case AT_RANK: return digit >= 0 && digit <= GREATEST_RANK ? take(ranks, digit, BEHIND_RANK) : FAULT;
                default: return c == ',' ? AT_DIRECTION : FAULT;
            }
        }

        private int stateBehindDraught(int c) {
            return c == 'r' ? AT_RANK : c == ',' ? AT_DIRECTION : FAULT;
        }

        private int begin(boolean goesUp) {
            sizes.put(arrivals, 0);
            draughts.put(arrivals, 0);
            ranks.put(arrivals, 0);
            ups.put(arrivals, goesUp ? 1 : 0);
            arrivals++;
            return AT_SIZE;
        }

        private int take(Row numbers, int digit, int state) {
            numbers.put(arrivals - 1, numbers.at(arrivals - 1) * 10 + digit);
            return state;
        }
    }
}
