/** Canals that the tests of sentences begin with, and what they look like. */
final class Canals {
    private Canals() {
    }

    /** Reaches with much water; a locking takes 4 units of the 810 in a reach, so that the first four keep it wet. */
    static LockMaster plenty(int reaches, int length) {
        LockMaster canal = new LockMaster();
        for (int k = 0; k < reaches; k++) {
            canal.addReach(9, 90, length, 4, 0);
        }
        return canal;
    }

    /** Two reaches of the area 1 and the normal level 20, so that water and level are the same number. */
    static LockMaster narrow(int length, int chamber, int basins) {
        return levels(20, 20, length, chamber, basins);
    }

    /** Two reaches of the area 1. */
    static LockMaster levels(int above, int below, int length, int chamber, int basins) {
        LockMaster canal = new LockMaster();
        canal.addReach(1, above, 0, 0, 0);
        canal.addReach(1, below, length, chamber, basins);
        return canal;
    }

    /**
     * Two reaches of the area 4 and the normal level 20, after a locking down that took so many units from the 80
     * above: 8 leave the level 18 and the dryness 0, 9 to 24 the levels 17 to 14 and the dryness 1, more the dryness 2.
     * The ship 0 has left, the chamber is empty, and the reach below has its 80 units.
     */
    static LockMaster dried(int length, int units) {
        LockMaster canal = new LockMaster();
        canal.addReach(4, 20, 0, 0, 0);
        canal.addReach(4, 20, length, units, 0);
        canal.addShip(length, 1, 3, false);
        canal.pass(1);
        return canal;
    }

    static LockMaster with(LockMaster canal, String arrivals) {
        Check.type(canal, arrivals);
        canal.arrive();
        return canal;
    }

    static LockMaster toTick(LockMaster canal, int tick) {
        for (int i = 0; i < 13 && canal.tick() < tick; i++) {
            canal.pass(Math.min(40, tick - canal.tick()));
        }
        return canal;
    }

    /** The water of each reach, and between two of them whether the chamber is full and how many basins are. */
    static String water(LockMaster canal) {
        StringBuilder text = new StringBuilder();
        for (int k = 0; k < canal.account(0); k++) {
            text.append(k == 0 ? "" : " (" + canal.lock(k - 1, 4) + " " + canal.lock(k - 1, 5) + ") ");
            text.append(canal.reach(k, 2));
        }
        return text.toString();
    }

    static String convoy(LockMaster canal, int ship) {
        StringBuilder text = new StringBuilder();
        for (int i = 0; i < canal.ship(ship, 8); i++) {
            text.append(i == 0 ? "" : " ").append(canal.convoy(ship, i));
        }
        return text.toString();
    }

    static String order(LockMaster canal, int lock) {
        StringBuilder text = new StringBuilder();
        for (int i = 0; i < canal.lock(lock, 7); i++) {
            text.append(i == 0 ? "" : " ").append(canal.waiting(lock, i));
        }
        return text.toString();
    }
}
