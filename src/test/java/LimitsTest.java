/**
 * Promise 15, with the limits of 4, 5, 7 and 8: the last one that is taken, the first one that
 * is FULL, what counts towards a limit and what doesn't, and BAD_NUMBER ahead of FULL.
 */
public final class LimitsTest {
    private static final int BAD = RaceFinder.BAD_NUMBER;
    private static final int FULL = RaceFinder.FULL;
    private static final int[] WRONG = {
        Integer.MIN_VALUE, -13, -2, -1, 12, 13, 16, 20, 32, 256, Integer.MAX_VALUE};
    private static final Call[] LIMITED = {
        Call.of("load", 0, 0, 0), Call.of("store", 0, 0, 0),
        Call.of("region", 0, 0, -1), Call.of("access", 0, 0, 0, 1)};
    private static final int[] LIMITS = {20, 20, 12, 16};

    public static void main(String[] args) {
        twentyLoadsWereGiven();
        twentyUnlikeLoads();
        twentyStoresWereGiven();
        twentyUnlikeStores();
        thereAreTwelveRegions();
        twelveRegionsOfAllThreads();
        thereAreSixteenAccesses();
        refusedOnesTakeNoRoom();
        fullStaysFull();
        oneLimitIsNotAnothers();
        allocCopyAndOnceHaveNoLimit();
        badLoadAheadOfFull();
        badStoreAheadOfFull();
        badRegionAheadOfFull();
        badAccessAheadOfFull();
        Due.end();
    }

    // Promise 4: "twenty load statements were given: FULL".
    private static void twentyLoadsWereGiven() {
        RaceFinder x = new RaceFinder();
        x.alloc(0, 0);
        x.alloc(1, 1);
        x.store(0, 0, 1);
        for (int n = 0; n < 19; n++) {
            Due.is("load " + n + ", the same over and over", x.load(2, 0, 1), 0);
        }
        Due.is("load 19", x.load(3, 0, 0), 1);
        Due.is("load 20", x.load(4, 0, 0), FULL);
        Due.is("load 20, one given before", x.load(3, 0, 0), FULL);
        Due.is("the refused load did nothing", x.pointsTo(4), 0);
        x.alloc(1, 5);
        Due.is("load 19 still works", x.pointsTo(3), 34);
        Due.is("and the refused one doesn't", x.pointsTo(4), 0);
    }

    private static void twentyUnlikeLoads() {
        RaceFinder x = new RaceFinder();
        for (int n = 0; n < 20; n++) {
            Due.is("unlike load " + n, x.load(n % 10, 11, n / 10), 0);
        }
        Due.is("unlike load 20", x.load(10, 11, 1), FULL);
        x.alloc(11, 6);
        x.store(11, 0, 11);
        for (int v = 0; v < 10; v++) {
            Due.is("every one of the twenty works: pointsTo(" + v + ")", x.pointsTo(v), 64);
        }
        Due.is("but not the one that was refused", x.pointsTo(10), 0);
        RaceFinder y = new RaceFinder();
        for (int n = 0; n < 20; n++) {
            y.load(n % 10, 11, n / 10);
        }
        y.alloc(11, 6);
        y.store(11, 1, 11);
        for (int v = 0; v < 10; v++) {
            Due.is("by the other field: pointsTo(" + v + ")", y.pointsTo(v), 64);
        }
    }

    // Promise 5: "twenty store statements were given: FULL".
    private static void twentyStoresWereGiven() {
        RaceFinder x = new RaceFinder();
        x.alloc(0, 0);
        x.alloc(1, 1);
        for (int n = 0; n < 19; n++) {
            Due.is("store " + n + ", the same over and over", x.store(2, 0, 2), 0);
        }
        Due.is("store 19", x.store(0, 0, 1), 0);
        Due.is("store 20", x.store(0, 1, 1), FULL);
        Due.is("store 20, one given before", x.store(0, 0, 1), FULL);
        x.alloc(1, 5);
        Due.is("store 19 works", x.holds(0, 0), 34);
        Due.is("the refused one doesn't", x.holds(0, 1), 0);
    }

    private static void twentyUnlikeStores() {
        RaceFinder x = new RaceFinder();
        for (int n = 0; n < 20; n++) {
            Due.is("unlike store " + n, x.store(n % 10, n / 10, 11), 0);
        }
        Due.is("unlike store 20", x.store(10, 1, 11), FULL);
        for (int v = 0; v < 7; v++) {
            x.alloc(v, v);
        }
        x.alloc(10, 7);
        x.alloc(11, 7);
        for (int s = 0; s < 7; s++) {
            Due.is("every one of the twenty works: holds(" + s + ", 0)", x.holds(s, 0), 128);
            Due.is("every one of the twenty works: holds(" + s + ", 1)", x.holds(s, 1), 128);
        }
        Due.is("but not the one that was refused", x.holds(7, 1), 0);
    }

    // Promise 7: "there are twelve regions: FULL".
    private static void thereAreTwelveRegions() {
        RaceFinder x = new RaceFinder();
        for (int n = 0; n < 12; n++) {
            Due.is("region " + n, x.region(1, 0, n - 1), n);
        }
        Due.is("region 12", x.region(1, 0, -1), FULL);
        Due.is("region 12 in region 11", x.region(1, 0, 11), FULL);
        Due.is("held(16)", x.held(16), BAD);
        Due.is("access(16, 0, 0, true)", x.access(16, 0, 0, true), BAD);
        Due.is("access(15, 0, 0, true)", x.access(15, 0, 0, true), 0);
    }

    private static void twelveRegionsOfAllThreads() {
        RaceFinder x = new RaceFinder();
        for (int n = 0; n < 12; n++) {
            Due.is("region " + n + " of thread " + n % 4, x.region(n % 4, n, -1), n);
        }
        for (int thread = 0; thread < 4; thread++) {
            Due.is("region 12 of thread " + thread, x.region(thread, 0, -1), FULL);
        }
    }

    // Promise 8: "there are sixteen accesses: FULL".
    private static void thereAreSixteenAccesses() {
        RaceFinder x = new RaceFinder();
        x.alloc(0, 0);
        for (int n = 0; n < 16; n++) {
            Due.is("access " + n, x.access(0, 0, 0, true), n);
        }
        Due.is("access 16", x.access(1, 0, 0, true), FULL);
        Due.is("access 16 of another kind", x.access(2, 3, 1, false), FULL);
        Due.is("the refused access races with none", x.races(), 0);
        Due.is("and doesn't exist", x.race(0, 16), false);
    }

    private static void refusedOnesTakeNoRoom() {
        for (int k = 0; k < LIMITED.length; k++) {
            RaceFinder x = new RaceFinder();
            for (int n = 0; n < LIMITS[k]; n++) {
                Due.is("a wrong one ahead of " + LIMITED[k] + " " + n, LIMITED[k].with(1, -1).on(x), BAD);
                Due.is(LIMITED[k] + " " + n, LIMITED[k].on(x), k < 2 ? 0 : n);
            }
            Due.is(LIMITED[k] + " " + LIMITS[k], LIMITED[k].on(x), FULL);
        }
    }

    private static void fullStaysFull() {
        for (Call call : LIMITED) {
            RaceFinder x = State.FULL.make();
            for (int n = 0; n < 50; n++) {
                Due.is(call + " when full, again", call.on(x), FULL);
            }
            x.once(0, false);
            x.alloc(0, 7);
            x.copy(7, 0);
            Due.is(call + " when full, after other calls", call.on(x), FULL);
        }
    }

    private static void oneLimitIsNotAnothers() {
        for (int full = 0; full < LIMITED.length; full++) {
            RaceFinder x = new RaceFinder();
            for (int n = 0; n <= LIMITS[full]; n++) {
                LIMITED[full].on(x);
            }
            for (int k = 0; k < LIMITED.length; k++) {
                for (int n = 0; n <= LIMITS[k]; n++) {
                    int due = n == LIMITS[k] || k == full ? FULL : k < 2 ? 0 : n;
                    Due.is(LIMITED[k] + " " + n + " after " + LIMITED[full] + " was full", LIMITED[k].on(x), due);
                }
            }
        }
    }

    private static void allocCopyAndOnceHaveNoLimit() {
        RaceFinder x = State.FULL.make();
        Due.is("an alloc when all is full", x.alloc(6, 5), 1);
        Due.is("a copy when all is full", x.copy(7, 6), 1);
        Due.is("once when all is full", x.once(5, true), 0);
        Due.is("once again when all is full", x.once(5, false), 1);
        for (int n = 0; n < 200; n++) {
            Due.is("copy " + n, x.copy(7, 6), 1);
            Due.is("alloc " + n, x.alloc(6, 5), 1);
        }
    }

    // Promise 15: "load, store, region, access: BAD_NUMBER is tested before FULL."
    private static void badLoadAheadOfFull() {
        RaceFinder x = State.FULL.make();
        Due.is("load(11, 11, 1) when full", x.load(11, 11, 1), FULL);
        for (int n : WRONG) {
            Due.is("load(" + n + ", 0, 0) when full", x.load(n, 0, 0), BAD);
            Due.is("load(0, " + n + ", 0) when full", x.load(0, n, 0), BAD);
            Due.is("load(0, 0, " + n + ") when full", x.load(0, 0, n), BAD);
        }
        Due.is("load(0, 0, 2) when full", x.load(0, 0, 2), BAD);
    }

    private static void badStoreAheadOfFull() {
        RaceFinder x = State.FULL.make();
        Due.is("store(11, 1, 11) when full", x.store(11, 1, 11), FULL);
        for (int n : WRONG) {
            Due.is("store(" + n + ", 0, 0) when full", x.store(n, 0, 0), BAD);
            Due.is("store(0, " + n + ", 0) when full", x.store(0, n, 0), BAD);
            Due.is("store(0, 0, " + n + ") when full", x.store(0, 0, n), BAD);
        }
        Due.is("store(0, 2, 0) when full", x.store(0, 2, 0), BAD);
    }

    private static void badRegionAheadOfFull() {
        RaceFinder x = State.FULL.make();
        Due.is("region(3, 11, -1) when full", x.region(3, 11, -1), FULL);
        Due.is("region(3, 11, 11) when full", x.region(3, 11, 11), FULL);
        for (int n : WRONG) {
            Due.is("region(" + n + ", 0, -1) when full", x.region(n, 0, -1), BAD);
            Due.is("region(0, " + n + ", -1) when full", x.region(0, n, -1), BAD);
            Due.is("region(0, 0, " + n + ") when full", x.region(0, 0, n), n == -1 ? FULL : BAD);
        }
        Due.is("region(4, 0, -1) when full", x.region(4, 0, -1), BAD);
        Due.is("region(0, 0, 12), its own number, when full", x.region(0, 0, 12), BAD);
        Due.is("region(0, 0, 11), another thread's, when full", x.region(0, 0, 11), BAD);
    }

    private static void badAccessAheadOfFull() {
        RaceFinder x = State.FULL.make();
        Due.is("access(15, 11, 1, false) when full", x.access(15, 11, 1, false), FULL);
        for (int n : WRONG) {
            boolean place = n >= 0 && n < 16;
            Due.is("access(" + n + ", 0, 0, true) when full", x.access(n, 0, 0, true), place ? FULL : BAD);
            Due.is("access(0, " + n + ", 0, true) when full", x.access(0, n, 0, true), BAD);
            Due.is("access(0, 0, " + n + ", true) when full", x.access(0, 0, n, true), BAD);
        }
        Due.is("access(0, 0, 2, false) when full", x.access(0, 0, 2, false), BAD);
        RaceFinder y = new RaceFinder();
        for (int n = 0; n < 16; n++) {
            y.access(0, 0, 0, true);
        }
        Due.is("access(4, 0, 0, true) when full, no regions", y.access(4, 0, 0, true), BAD);
    }
}
