/** The states in which the boundaries are looked at: nothing there, something there, no room left. */
enum State {
    NEW, BUSY, FULL;

    private static final int[] BUSY_THREADS = {0, 0, 1};
    private static final int[] FULL_THREADS = {0, 1, 2, 3, 0, 1, 2, 3, 0, 1, 2, 3};

    RaceFinder make() {
        RaceFinder x = new RaceFinder();
        if (this == BUSY) {
            makeBusy(x);
        }
        if (this == FULL) {
            makeFull(x);
        }
        return x;
    }

    int regions() {
        return this == NEW ? 0 : this == BUSY ? BUSY_THREADS.length : FULL_THREADS.length;
    }

    int threadOfRegion(int region) {
        return this == BUSY ? BUSY_THREADS[region] : FULL_THREADS[region];
    }

    private static void makeBusy(RaceFinder x) {
        x.alloc(0, 0);
        x.alloc(1, 1);
        x.alloc(1, 2);
        x.copy(2, 1);
        x.store(0, 0, 1);
        x.load(3, 0, 0);
        x.load(4, 5, 1);
        x.once(0, true);
        x.once(7, true);
        x.region(0, 0, -1);
        x.region(0, 1, 0);
        x.region(1, 0, -1);
        x.access(0, 0, 0, true);
        x.access(5, 1, 1, true);
        x.access(6, 2, 1, false);
    }

    // The last load, store, region and access are unlike all others and not yet
    // all in effect, so that a call that writes over one of them can be noticed.
    private static void makeFull(RaceFinder x) {
        for (int s = 0; s < 4; s++) {
            x.alloc(s, s);
            x.once(s, s % 2 == 0);
        }
        for (int n = 0; n < 19; n++) {
            x.load(4 + n % 2, n % 2, n % 2);
            x.store(n % 2, n % 2, 2 + n % 2);
        }
        x.load(11, 10, 1);
        x.store(9, 0, 3);
        for (int r = 0; r < 11; r++) {
            x.region(FULL_THREADS[r], r % 4, r < 4 ? -1 : r - 4);
        }
        x.region(FULL_THREADS[11], 8, 7);
        for (int a = 0; a < 15; a++) {
            x.access(a, a % 4, a % 2, a % 3 == 0);
        }
        x.access(15, 8, 1, true);
    }
}
