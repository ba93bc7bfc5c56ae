/** Promises 2 to 5, 9 and 10: alloc, copy, load, store, and the sets that follow from them. */
public final class StatementsTest {
    private static final int BAD = RaceFinder.BAD_NUMBER;
    private static final int[] WRONG = {Integer.MIN_VALUE, -2, -1, 12, 13, 32, 44, Integer.MAX_VALUE};

    public static void main(String[] args) {
        allocAddsSites();
        allocReachesEveryVariableAndSite();
        allocRefusesWrongNumbers();
        copyFollowsLaterStatements();
        copyGoesOneWay();
        copyGoesRoundInCircles();
        copyRefusesWrongNumbers();
        copiesHaveNoLimit();
        loadReadsTheRightField();
        loadReadsAllSitesOfItsBase();
        loadFollowsLaterStatements();
        loadOverItself();
        loadRefusesWrongNumbers();
        storeWritesTheRightField();
        storeWritesToAllSitesOfItsBase();
        storeFollowsLaterStatements();
        storeAddsAndNeverReplaces();
        storeRefusesWrongNumbers();
        longChainAgainstTheOrder();
        copiesBesideAnIdleOne();
        loadsBesideAnIdleOne();
        storesBesideAnIdleOne();
        pointsToRefusesWrongNumbers();
        holdsRefusesWrongNumbers();
        Due.end();
    }

    private static void allocAddsSites() {
        RaceFinder x = new RaceFinder();
        Due.is("alloc(3, 5)", x.alloc(3, 5), 1);
        Due.is("alloc(3, 5) again", x.alloc(3, 5), 1);
        Due.is("alloc(3, 0)", x.alloc(3, 0), 2);
        Due.is("alloc(4, 0)", x.alloc(4, 0), 1);
        Due.is("pointsTo(3)", x.pointsTo(3), 1 << 5 | 1);
        Due.is("pointsTo(4)", x.pointsTo(4), 1);
        for (int s = 0; s < 8; s++) {
            x.alloc(3, s);
        }
        Due.is("alloc(3, 7) when all are in", x.alloc(3, 7), 8);
        Due.is("pointsTo(3) full", x.pointsTo(3), 255);
        Due.is("alloc stores nothing", x.holds(5, 0), 0);
    }

    private static void allocReachesEveryVariableAndSite() {
        for (int v = 0; v < 12; v++) {
            for (int s = 0; s < 8; s++) {
                RaceFinder x = new RaceFinder();
                Due.is("alloc(" + v + ", " + s + ")", x.alloc(v, s), 1);
                for (int w = 0; w < 12; w++) {
                    Due.is("then pointsTo(" + w + ")", x.pointsTo(w), w == v ? 1 << s : 0);
                }
            }
        }
    }

    private static void allocRefusesWrongNumbers() {
        RaceFinder x = new RaceFinder();
        for (int n : WRONG) {
            Due.is("alloc(" + n + ", 0)", x.alloc(n, 0), BAD);
            Due.is("alloc(0, " + n + ")", x.alloc(0, n), BAD);
            Due.is("alloc(" + n + ", " + n + ")", x.alloc(n, n), BAD);
        }
        Due.is("alloc(0, 8)", x.alloc(0, 8), BAD);
        nothingChanged(x);
    }

    private static void copyFollowsLaterStatements() {
        RaceFinder x = new RaceFinder();
        Due.is("copy(1, 2) of nothing", x.copy(1, 2), 0);
        x.alloc(2, 6);
        Due.is("pointsTo(1) after alloc(2, 6)", x.pointsTo(1), 1 << 6);
        x.alloc(3, 1);
        Due.is("copy(2, 3)", x.copy(2, 3), 2);
        Due.is("pointsTo(1) after copy(2, 3)", x.pointsTo(1), 1 << 6 | 1 << 1);
        Due.is("alloc(1, 0) counts the copied ones", x.alloc(1, 0), 3);
    }

    private static void copyGoesOneWay() {
        RaceFinder x = new RaceFinder();
        x.alloc(0, 0);
        x.alloc(11, 7);
        Due.is("copy(11, 0)", x.copy(11, 0), 2);
        Due.is("pointsTo(11)", x.pointsTo(11), 129);
        Due.is("pointsTo(0)", x.pointsTo(0), 1);
        Due.is("copy(0, 0) of itself", x.copy(0, 0), 1);
        Due.is("copy(5, 5) of itself, empty", x.copy(5, 5), 0);
    }

    private static void copyGoesRoundInCircles() {
        RaceFinder x = new RaceFinder();
        for (int v = 0; v < 12; v++) {
            x.copy((v + 1) % 12, v);
        }
        for (int s = 0; s < 8; s++) {
            Due.is("alloc on the circle", x.alloc(s, s), s + 1);
        }
        for (int v = 0; v < 12; v++) {
            Due.is("pointsTo(" + v + ") on the circle", x.pointsTo(v), 255);
        }
    }

    private static void copyRefusesWrongNumbers() {
        RaceFinder x = new RaceFinder();
        for (int n : WRONG) {
            Due.is("copy(" + n + ", 0)", x.copy(n, 0), BAD);
            Due.is("copy(0, " + n + ")", x.copy(0, n), BAD);
        }
        nothingChanged(x);
        x.alloc(0, 0);
        for (int v = 1; v < 12; v++) {
            Due.is("refused copies: pointsTo(" + v + ")", x.pointsTo(v), 0);
        }
    }

    private static void copiesHaveNoLimit() {
        RaceFinder x = new RaceFinder();
        for (int v = 0; v < 12; v++) {
            for (int w = 0; w < 12; w++) {
                Due.is("copy(" + v + ", " + w + ")", x.copy(v, w), 0);
            }
        }
        for (int n = 0; n < 200; n++) {
            Due.is("copy(0, 1) over and over", x.copy(0, 1), 0);
        }
        for (int n = 0; n < 100; n++) {
            Due.is("alloc(7, 3) over and over", x.alloc(7, 3), 1);
        }
        for (int v = 0; v < 12; v++) {
            Due.is("all copies: pointsTo(" + v + ")", x.pointsTo(v), 8);
        }
    }

    private static void loadReadsTheRightField() {
        RaceFinder x = new RaceFinder();
        x.alloc(0, 2);
        x.alloc(1, 3);
        x.alloc(2, 4);
        x.alloc(2, 5);
        x.store(0, 0, 1);
        x.store(0, 1, 2);
        Due.is("load(5, 0, 0)", x.load(5, 0, 0), 1);
        Due.is("load(6, 0, 1)", x.load(6, 0, 1), 2);
        Due.is("pointsTo(5)", x.pointsTo(5), 8);
        Due.is("pointsTo(6)", x.pointsTo(6), 48);
        Due.is("load(7, 1, 0): site 3 holds nothing", x.load(7, 1, 0), 0);
    }

    private static void loadReadsAllSitesOfItsBase() {
        RaceFinder x = new RaceFinder();
        x.alloc(0, 0);
        x.alloc(1, 7);
        x.store(0, 1, 0);
        x.store(1, 1, 1);
        x.alloc(2, 0);
        x.alloc(2, 7);
        x.alloc(9, 4);
        Due.is("load(9, 2, 1)", x.load(9, 2, 1), 3);
        Due.is("pointsTo(9)", x.pointsTo(9), 1 | 1 << 4 | 1 << 7);
        Due.is("pointsTo(2) is only read", x.pointsTo(2), 129);
    }

    private static void loadFollowsLaterStatements() {
        RaceFinder x = new RaceFinder();
        Due.is("load(4, 3, 0) of nothing", x.load(4, 3, 0), 0);
        x.store(2, 0, 1);
        x.alloc(1, 6);
        x.alloc(2, 5);
        Due.is("pointsTo(4) before its base has a site", x.pointsTo(4), 0);
        x.alloc(3, 5);
        Due.is("pointsTo(4) after", x.pointsTo(4), 64);
        Due.is("holds(5, 0)", x.holds(5, 0), 64);
    }

    private static void loadOverItself() {
        RaceFinder x = new RaceFinder();
        for (int s = 0; s < 7; s++) {
            x.alloc(s, s);
            x.alloc(s + 1, s + 1);
            x.store(s, 0, s + 1);
        }
        x.alloc(10, 0);
        Due.is("load(10, 10, 0) walks the whole list", x.load(10, 10, 0), 8);
        Due.is("pointsTo(10)", x.pointsTo(10), 255);
    }

    private static void loadRefusesWrongNumbers() {
        RaceFinder x = new RaceFinder();
        for (int n : WRONG) {
            Due.is("load(" + n + ", 0, 0)", x.load(n, 0, 0), BAD);
            Due.is("load(0, " + n + ", 0)", x.load(0, n, 0), BAD);
            Due.is("load(0, 0, " + n + ")", x.load(0, 0, n), BAD);
        }
        Due.is("load(0, 0, 2)", x.load(0, 0, 2), BAD);
        nothingChanged(x);
        for (int n = 0; n < 20; n++) {
            Due.is("refused loads take no room", x.load(0, 0, 0), 0);
        }
    }

    private static void storeWritesTheRightField() {
        RaceFinder x = new RaceFinder();
        x.alloc(0, 2);
        x.alloc(1, 3);
        Due.is("store(0, 1, 1)", x.store(0, 1, 1), 0);
        Due.is("holds(2, 1)", x.holds(2, 1), 8);
        Due.is("holds(2, 0)", x.holds(2, 0), 0);
        Due.is("holds(3, 1)", x.holds(3, 1), 0);
        Due.is("store(0, 0, 0)", x.store(0, 0, 0), 0);
        Due.is("holds(2, 0) itself", x.holds(2, 0), 4);
        Due.is("pointsTo(0) is not touched", x.pointsTo(0), 4);
    }

    private static void storeWritesToAllSitesOfItsBase() {
        RaceFinder x = new RaceFinder();
        x.alloc(0, 0);
        x.alloc(0, 4);
        x.alloc(0, 7);
        x.alloc(1, 1);
        x.alloc(1, 2);
        x.store(0, 0, 1);
        for (int s = 0; s < 8; s++) {
            boolean base = s == 0 || s == 4 || s == 7;
            Due.is("holds(" + s + ", 0)", x.holds(s, 0), base ? 6 : 0);
            Due.is("holds(" + s + ", 1)", x.holds(s, 1), 0);
        }
    }

    private static void storeFollowsLaterStatements() {
        RaceFinder x = new RaceFinder();
        Due.is("store(8, 1, 9) of nothing", x.store(8, 1, 9), 0);
        x.alloc(9, 3);
        Due.is("holds(6, 1) before", x.holds(6, 1), 0);
        x.alloc(8, 6);
        Due.is("holds(6, 1) after its base has a site", x.holds(6, 1), 8);
        x.alloc(9, 0);
        Due.is("holds(6, 1) after its source has more", x.holds(6, 1), 9);
    }

    private static void storeAddsAndNeverReplaces() {
        RaceFinder x = new RaceFinder();
        x.alloc(0, 0);
        x.alloc(1, 1);
        x.alloc(2, 2);
        x.store(0, 0, 1);
        x.store(0, 0, 2);
        Due.is("holds(0, 0) has both", x.holds(0, 0), 6);
    }

    private static void storeRefusesWrongNumbers() {
        RaceFinder x = new RaceFinder();
        for (int n : WRONG) {
            Due.is("store(" + n + ", 0, 0)", x.store(n, 0, 0), BAD);
            Due.is("store(0, " + n + ", 0)", x.store(0, n, 0), BAD);
            Due.is("store(0, 0, " + n + ")", x.store(0, 0, n), BAD);
        }
        Due.is("store(0, 2, 0)", x.store(0, 2, 0), BAD);
        nothingChanged(x);
        for (int n = 0; n < 20; n++) {
            Due.is("refused stores take no room", x.store(0, 0, 0), 0);
        }
    }

    // Each statement here needs what the one after it gives, through copies,
    // stores and loads in turn, so that one pass in order is not enough.
    private static void longChainAgainstTheOrder() {
        RaceFinder x = new RaceFinder();
        for (int k = 9; k > 0; k--) {
            Due.is("load in the chain", x.load(k, k - 1, k % 2), 0);
            x.store(k - 1, k % 2, k - 1);
            x.copy(k - 1, k);
        }
        Due.is("alloc(0, 4) ahead of the chain", x.alloc(0, 4), 1);
        for (int k = 0; k < 10; k++) {
            Due.is("chain: pointsTo(" + k + ")", x.pointsTo(k), 16);
        }
        Due.is("chain: holds(4, 0)", x.holds(4, 0), 16);
        Due.is("chain: holds(4, 1)", x.holds(4, 1), 16);
    }

    // A statement that has nothing to add must not hide that another one had.
    private static void copiesBesideAnIdleOne() {
        RaceFinder x = new RaceFinder();
        x.copy(1, 2);
        x.copy(2, 3);
        x.copy(3, 4);
        x.copy(0, 11);
        x.copy(11, 10);
        Due.is("alloc(4, 6)", x.alloc(4, 6), 1);
        Due.is("over three copies beside idle ones", x.pointsTo(1), 1 << 6);
        Due.is("the idle one", x.pointsTo(11), 0);
    }

    private static void loadsBesideAnIdleOne() {
        RaceFinder x = new RaceFinder();
        x.alloc(0, 0);
        x.alloc(1, 5);
        x.store(0, 0, 1);
        x.copy(3, 2);
        x.load(2, 4, 0);
        x.load(11, 10, 1);
        Due.is("copy(4, 0)", x.copy(4, 0), 1);
        Due.is("a load beside an idle one", x.pointsTo(2), 1 << 5);
        Due.is("a copy of what was loaded", x.pointsTo(3), 1 << 5);
        Due.is("the idle one", x.pointsTo(11), 0);
    }

    private static void storesBesideAnIdleOne() {
        RaceFinder x = new RaceFinder();
        x.alloc(0, 0);
        x.load(2, 0, 0);
        x.store(0, 0, 1);
        x.alloc(3, 7);
        x.store(3, 1, 4);
        Due.is("alloc(1, 5)", x.alloc(1, 5), 1);
        Due.is("a store beside an idle one", x.holds(0, 0), 1 << 5);
        Due.is("a load of what was stored", x.pointsTo(2), 1 << 5);
        Due.is("the idle one", x.holds(7, 1), 0);
    }

    private static void pointsToRefusesWrongNumbers() {
        RaceFinder x = new RaceFinder();
        for (int n : WRONG) {
            Due.is("pointsTo(" + n + ")", x.pointsTo(n), BAD);
        }
        Due.is("pointsTo(11)", x.pointsTo(11), 0);
    }

    private static void holdsRefusesWrongNumbers() {
        RaceFinder x = new RaceFinder();
        for (int n : WRONG) {
            Due.is("holds(" + n + ", 0)", x.holds(n, 0), BAD);
            Due.is("holds(0, " + n + ")", x.holds(0, n), BAD);
        }
        Due.is("holds(8, 0)", x.holds(8, 0), BAD);
        Due.is("holds(0, 2)", x.holds(0, 2), BAD);
        Due.is("holds(7, 1)", x.holds(7, 1), 0);
    }

    private static void nothingChanged(RaceFinder x) {
        for (int v = 0; v < 12; v++) {
            Due.is("after refusals: pointsTo(" + v + ")", x.pointsTo(v), 0);
        }
        for (int s = 0; s < 8; s++) {
            Due.is("after refusals: holds(" + s + ", 0)", x.holds(s, 0), 0);
            Due.is("after refusals: holds(" + s + ", 1)", x.holds(s, 1), 0);
        }
    }
}
