/** Promise 15, with the limits of 4, 5, 7 and 8: BAD_NUMBER is tested before FULL. */
public final class LimitsTest {
    private static final int BAD = RaceFinder.BAD_NUMBER;
    private static final int FULL = RaceFinder.FULL;

    public static void main(String[] args) {
        loads();
        stores();
        regions();
        accesses();
        limitsAreApart();
        Due.end();
    }

    private static void loads() {
        RaceFinder x = new RaceFinder();
        x.alloc(0, 0);
        x.alloc(1, 1);
        x.store(0, 0, 1);
        for (int n = 0; n < 19; n++) {
            Due.is("load " + n + ", the same over and over", x.load(2, 0, 1), 0);
        }
        Due.is("load 19", x.load(3, 0, 0), 1);
        Due.is("load 20", x.load(4, 0, 0), FULL);
        Due.is("load 20, one given before", x.load(3, 0, 0), FULL);
        Due.is("the refused load did nothing", x.pointsTo(4), 0);
        Due.is("load(12, 0, 0) when full", x.load(12, 0, 0), BAD);
        Due.is("load(0, -1, 0) when full", x.load(0, -1, 0), BAD);
        Due.is("load(0, 0, 2) when full", x.load(0, 0, 2), BAD);
        x.alloc(1, 5);
        Due.is("load 19 still works", x.pointsTo(3), 34);
        Due.is("and the refused one doesn't", x.pointsTo(4), 0);
    }

    private static void stores() {
        RaceFinder x = new RaceFinder();
        x.alloc(0, 0);
        x.alloc(1, 1);
        for (int n = 0; n < 19; n++) {
            Due.is("store " + n + ", the same over and over", x.store(2, 0, 2), 0);
        }
        Due.is("store 19", x.store(0, 0, 1), 0);
        Due.is("store 20", x.store(0, 1, 1), FULL);
        Due.is("store 20, one given before", x.store(0, 0, 1), FULL);
        Due.is("store(12, 0, 0) when full", x.store(12, 0, 0), BAD);
        Due.is("store(0, 2, 0) when full", x.store(0, 2, 0), BAD);
        Due.is("store(0, 0, -1) when full", x.store(0, 0, -1), BAD);
        x.alloc(1, 5);
        Due.is("store 19 works", x.holds(0, 0), 34);
        Due.is("the refused one doesn't", x.holds(0, 1), 0);
    }

    private static void regions() {
        RaceFinder x = new RaceFinder();
        for (int n = 0; n < 12; n++) {
            Due.is("region " + n, x.region(1, 0, n - 1), n);
        }
        Due.is("region 12", x.region(1, 0, -1), FULL);
        Due.is("region 12 in region 11", x.region(1, 0, 11), FULL);
        Due.is("region in region 12 when full", x.region(1, 0, 12), BAD);
        Due.is("region(4, 0, -1) when full", x.region(4, 0, -1), BAD);
        Due.is("region(1, 12, -1) when full", x.region(1, 12, -1), BAD);
        Due.is("region(1, 0, -2) when full", x.region(1, 0, -2), BAD);
        Due.is("region in another thread's when full", x.region(0, 0, 0), BAD);
        Due.is("held(16)", x.held(16), BAD);
        Due.is("access(16, 0, 0, true)", x.access(16, 0, 0, true), BAD);
        Due.is("access(15, 0, 0, true)", x.access(15, 0, 0, true), 0);
    }

    private static void accesses() {
        RaceFinder x = new RaceFinder();
        x.alloc(0, 0);
        for (int n = 0; n < 16; n++) {
            Due.is("access " + n, x.access(0, 0, 0, true), n);
        }
        Due.is("access 16", x.access(1, 0, 0, true), FULL);
        Due.is("the refused access races with none", x.races(), 0);
        Due.is("access(4, 0, 0, true) when full", x.access(4, 0, 0, true), BAD);
        Due.is("access(-1, 0, 0, true) when full", x.access(-1, 0, 0, true), BAD);
        Due.is("access(0, 12, 0, true) when full", x.access(0, 12, 0, true), BAD);
        Due.is("access(0, 0, 2, true) when full", x.access(0, 0, 2, true), BAD);
    }

    private static void limitsAreApart() {
        RaceFinder x = new RaceFinder();
        for (int n = 0; n < 21; n++) {
            x.load(0, 0, 0);
        }
        Due.is("a store when the loads are full", x.store(0, 0, 0), 0);
        Due.is("an alloc when the loads are full", x.alloc(0, 0), 1);
        Due.is("a copy when the loads are full", x.copy(1, 0), 1);
        for (int n = 0; n < 21; n++) {
            x.store(0, 0, 0);
        }
        Due.is("a region when the stores are full", x.region(0, 0, -1), 0);
        Due.is("an access when the stores are full", x.access(0, 0, 0, true), 0);
        Due.is("a load when the loads are full", x.load(0, 0, 0), FULL);
    }
}
