/** Promises 6, 7, 8 and 13: once, region, access, held. */
public final class PlacesTest {
    private static final int BAD = RaceFinder.BAD_NUMBER;
    private static final int[] WRONG = {Integer.MIN_VALUE, -2, -1, 12, 13, 32, 44, Integer.MAX_VALUE};

    public static void main(String[] args) {
        onceTellsWhatWasBefore();
        onceRefusesWrongNumbers();
        regionsAreNumberedFromZero();
        regionsLieOnlyInRegionsOfTheirThread();
        regionRefusesWrongNumbers();
        accessesAreNumberedFromZero();
        accessRefusesWrongNumbers();
        heldNeedsExactlyOneSite();
        heldNeedsOnce();
        heldHasTheRegionsAround();
        heldLeavesOutRegionsInsideAndBeside();
        heldThroughTheDeepestNest();
        heldRefusesWrongNumbers();
        Due.end();
    }

    private static void onceTellsWhatWasBefore() {
        RaceFinder x = new RaceFinder();
        for (int s = 0; s < 8; s++) {
            Due.is("once(" + s + ", true)", x.once(s, true), 0);
            Due.is("once(" + s + ", true) again", x.once(s, true), 1);
            Due.is("once(" + s + ", false)", x.once(s, false), 1);
            Due.is("once(" + s + ", false) again", x.once(s, false), 0);
        }
        x.once(3, true);
        Due.is("once(2, false) beside site 3", x.once(2, false), 0);
        Due.is("once(4, true) beside site 3", x.once(4, true), 0);
        Due.is("once(3, false)", x.once(3, false), 1);
        Due.is("once(4, true) is still on", x.once(4, true), 1);
    }

    private static void onceRefusesWrongNumbers() {
        RaceFinder x = new RaceFinder();
        for (int n : WRONG) {
            Due.is("once(" + n + ", true)", x.once(n, true), BAD);
            Due.is("once(" + n + ", false)", x.once(n, false), BAD);
        }
        Due.is("once(8, true)", x.once(8, true), BAD);
        for (int s = 0; s < 8; s++) {
            Due.is("after refusals: once(" + s + ", false)", x.once(s, false), 0);
        }
    }

    private static void regionsAreNumberedFromZero() {
        RaceFinder x = new RaceFinder();
        for (int r = 0; r < 12; r++) {
            Due.is("region " + r, x.region(r % 4, r, -1), r);
        }
        Due.is("region 12", x.region(0, 0, -1), RaceFinder.FULL);
        Due.is("held(15)", x.held(15), 0);
        Due.is("held(16)", x.held(16), BAD);
    }

    private static void regionsLieOnlyInRegionsOfTheirThread() {
        RaceFinder x = new RaceFinder();
        Due.is("region(2, 0, -1)", x.region(2, 0, -1), 0);
        for (int thread = 0; thread < 4; thread++) {
            if (thread != 2) {
                Due.is("region(" + thread + ", 0, 0)", x.region(thread, 0, 0), BAD);
            }
        }
        Due.is("region(2, 0, 1) in itself", x.region(2, 0, 1), BAD);
        Due.is("region(2, 0, 0)", x.region(2, 0, 0), 1);
        Due.is("region(0, 0, -1)", x.region(0, 0, -1), 2);
        Due.is("region(2, 0, 2)", x.region(2, 0, 2), BAD);
        Due.is("region(2, 0, 1)", x.region(2, 0, 1), 3);
    }

    private static void regionRefusesWrongNumbers() {
        RaceFinder x = new RaceFinder();
        for (int n : WRONG) {
            Due.is("region(" + n + ", 0, -1)", x.region(n, 0, -1), BAD);
            Due.is("region(0, " + n + ", -1)", x.region(0, n, -1), BAD);
            if (n != -1) {
                Due.is("region(0, 0, " + n + ")", x.region(0, 0, n), BAD);
            }
        }
        Due.is("region(4, 0, -1)", x.region(4, 0, -1), BAD);
        Due.is("held(4) after refusals", x.held(4), BAD);
        Due.is("region(3, 11, -1)", x.region(3, 11, -1), 0);
    }

    private static void accessesAreNumberedFromZero() {
        RaceFinder x = new RaceFinder();
        x.region(1, 0, -1);
        for (int i = 0; i < 16; i++) {
            Due.is("access " + i, x.access(i % 5, i % 12, i % 2, i % 3 == 0), i);
        }
        Due.is("access 16", x.access(0, 0, 0, true), RaceFinder.FULL);
    }

    private static void accessRefusesWrongNumbers() {
        RaceFinder x = new RaceFinder();
        x.region(0, 0, -1);
        for (int n : WRONG) {
            Due.is("access(" + n + ", 0, 0, true)", x.access(n, 0, 0, true), BAD);
            Due.is("access(0, " + n + ", 0, true)", x.access(0, n, 0, true), BAD);
            Due.is("access(0, 0, " + n + ", true)", x.access(0, 0, n, true), BAD);
        }
        Due.is("access(0, 0, 2, true)", x.access(0, 0, 2, true), BAD);
        Due.is("access(5, 0, 0, true), no region 1", x.access(5, 0, 0, true), BAD);
        Due.is("access(4, 11, 1, false)", x.access(4, 11, 1, false), 0);
    }

    private static void heldNeedsExactlyOneSite() {
        RaceFinder x = new RaceFinder();
        x.once(5, true);
        x.once(6, true);
        x.region(1, 3, -1);
        Due.is("held(4), no site", x.held(4), 0);
        x.alloc(3, 5);
        Due.is("held(4), one site", x.held(4), 32);
        Due.is("held(1), outside", x.held(1), 0);
        x.alloc(3, 6);
        Due.is("held(4), two sites, both ONCE", x.held(4), 0);
    }

    private static void heldNeedsOnce() {
        RaceFinder x = new RaceFinder();
        x.alloc(0, 7);
        x.region(0, 0, -1);
        Due.is("held(4), not ONCE", x.held(4), 0);
        x.once(7, true);
        Due.is("held(4), ONCE", x.held(4), 128);
        x.once(7, false);
        Due.is("held(4), ONCE no more", x.held(4), 0);
        x.once(7, true);
        x.alloc(0, 2);
        Due.is("held(4), a site more that is not ONCE", x.held(4), 0);
    }

    private static void heldHasTheRegionsAround() {
        RaceFinder x = new RaceFinder();
        for (int s = 0; s < 3; s++) {
            x.alloc(s, s);
            x.once(s, true);
        }
        x.region(3, 0, -1);
        x.region(3, 1, 0);
        x.region(3, 2, 1);
        Due.is("held(4)", x.held(4), 1);
        Due.is("held(5)", x.held(5), 3);
        Due.is("held(6)", x.held(6), 7);
        x.once(1, false);
        Due.is("held(6), the middle one not ONCE", x.held(6), 5);
    }

    private static void heldLeavesOutRegionsInsideAndBeside() {
        RaceFinder x = new RaceFinder();
        for (int s = 0; s < 4; s++) {
            x.alloc(s, s);
            x.once(s, true);
        }
        x.region(0, 0, -1);
        x.region(0, 1, 0);
        x.region(0, 2, 0);
        x.region(0, 3, -1);
        Due.is("held(4)", x.held(4), 1);
        Due.is("held(5)", x.held(5), 3);
        Due.is("held(6)", x.held(6), 5);
        Due.is("held(7)", x.held(7), 8);
    }

    private static void heldThroughTheDeepestNest() {
        RaceFinder x = new RaceFinder();
        x.alloc(0, 4);
        x.once(4, true);
        x.region(2, 0, -1);
        for (int r = 1; r < 12; r++) {
            x.region(2, 1, r - 1);
        }
        Due.is("held(15), eleven regions in", x.held(15), 16);
    }

    private static void heldRefusesWrongNumbers() {
        RaceFinder x = new RaceFinder();
        x.region(0, 0, -1);
        for (int n : WRONG) {
            Due.is("held(" + n + ")", x.held(n), BAD);
        }
        Due.is("held(5)", x.held(5), BAD);
        Due.is("held(4)", x.held(4), 0);
        Due.is("held(3)", x.held(3), 0);
    }
}
