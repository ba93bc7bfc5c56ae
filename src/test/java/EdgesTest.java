/**
 * The edges that the document's sentences name beside wrong numbers and limits: nothing there,
 * just one, all of them, the first and the last. The sentence stands above each test.
 */
public final class EdgesTest {
    private static final int BAD = RaceFinder.BAD_NUMBER;

    public static void main(String[] args) {
        firstAndLastVariable();
        firstAndLastSite();
        bothFields();
        smallestSets();
        inWhateverOrder();
        insideNone();
        regionsAroundAndSoOn();
        placesAreThreadsThenRegions();
        exactlyOneSite();
        surelyHeldNeedsOnce();
        noneOutsideRegions();
        differentThreads();
        theSameField();
        atLeastOneWrites();
        someSiteInBoth();
        noSiteHeldAtBoth();
        stepsAtAnyDistance();
        aRegionIsNotAroundItself();
        noStepToItselfIfOnce();
        wayOfOneStepAndOfEight();
        stepsUsedMoreThanOnce();
        atLeastTwoThreads();
        newObject();
        allocCounts();
        copyCounts();
        loadCounts();
        storeAnswersZero();
        onceAnswersBefore();
        numbersFromZero();
        pointsToIsAMask();
        holdsIsAMask();
        raceOfOneThatDoesNotExist();
        racesCountsEachPairOnce();
        dangerOfNoneAndOfAll();
        theLastOf512Calls();
        Due.end();
    }

    private static RaceFinder withSites() {
        RaceFinder x = new RaceFinder();
        for (int s = 0; s < 8; s++) {
            x.alloc(s, s);
        }
        return x;
    }

    private static void step(RaceFinder x, int thread, int from, int to) {
        int outer = x.region(thread, from, -1);
        x.region(thread, to, outer);
    }

    // "There are VARIABLES 0 to 11"
    private static void firstAndLastVariable() {
        int[] ends = {0, 11};
        for (int v : ends) {
            int w = 11 - v;
            RaceFinder x = new RaceFinder();
            Due.is("alloc(" + v + ", 3)", x.alloc(v, 3), 1);
            Due.is("copy(" + w + ", " + v + ")", x.copy(w, v), 1);
            Due.is("store(" + v + ", 0, " + w + ")", x.store(v, 0, w), 0);
            Due.is("load(" + w + ", " + v + ", 0)", x.load(w, v, 0), 1);
            Due.is("region(0, " + v + ", -1)", x.region(0, v, -1), 0);
            Due.is("access(1, " + v + ", 0, true)", x.access(1, v, 0, true), 0);
            Due.is("pointsTo(" + v + ")", x.pointsTo(v), 8);
            Due.is("pointsTo(" + w + ")", x.pointsTo(w), 8);
            Due.is("pointsTo(5)", x.pointsTo(5), 0);
        }
        RaceFinder x = new RaceFinder();
        Due.is("pointsTo(-1)", x.pointsTo(-1), BAD);
        Due.is("pointsTo(12)", x.pointsTo(12), BAD);
    }

    // "and SITES 0 to 7"
    private static void firstAndLastSite() {
        int[] ends = {0, 7};
        for (int s : ends) {
            RaceFinder x = new RaceFinder();
            Due.is("alloc(0, " + s + ")", x.alloc(0, s), 1);
            x.store(0, 1, 0);
            Due.is("holds(" + s + ", 1)", x.holds(s, 1), 1 << s);
            Due.is("holds(" + (7 - s) + ", 1)", x.holds(7 - s, 1), 0);
            x.region(0, 0, -1);
            Due.is("once(" + s + ", true)", x.once(s, true), 0);
            Due.is("held(4)", x.held(4), 1 << s);
        }
        RaceFinder x = new RaceFinder();
        Due.is("holds(-1, 0)", x.holds(-1, 0), BAD);
        Due.is("holds(8, 0)", x.holds(8, 0), BAD);
    }

    // "Objects have FIELDS 0 and 1."
    private static void bothFields() {
        for (int f = 0; f < 2; f++) {
            RaceFinder x = withSites();
            x.store(2, f, 3);
            Due.is("holds(2, " + f + ")", x.holds(2, f), 8);
            Due.is("holds(2, " + (1 - f) + ")", x.holds(2, 1 - f), 0);
            Due.is("load(8, 2, " + f + ")", x.load(8, 2, f), 1);
            Due.is("load(9, 2, " + (1 - f) + ")", x.load(9, 2, 1 - f), 0);
        }
        RaceFinder x = new RaceFinder();
        Due.is("holds(0, -1)", x.holds(0, -1), BAD);
        Due.is("holds(0, 2)", x.holds(0, 2), BAD);
    }

    // "They are the smallest sets such that": statements without an alloc give nothing.
    private static void smallestSets() {
        RaceFinder x = new RaceFinder();
        for (int v = 0; v < 12; v++) {
            Due.is("copy round", x.copy((v + 1) % 12, v), 0);
            Due.is("load round", x.load(v, (v + 1) % 12, v % 2), 0);
            Due.is("store round", x.store(v, v % 2, (v + 1) % 12), 0);
        }
        for (int v = 0; v < 12; v++) {
            Due.is("no alloc: pointsTo(" + v + ")", x.pointsTo(v), 0);
        }
        for (int s = 0; s < 8; s++) {
            Due.is("no alloc: holds(" + s + ", 0)", x.holds(s, 0), 0);
            Due.is("no alloc: holds(" + s + ", 1)", x.holds(s, 1), 0);
        }
        x.alloc(0, 4);
        Due.is("one alloc: pointsTo(11)", x.pointsTo(11), 16);
        Due.is("one alloc: holds(4, 1)", x.holds(4, 1), 16);
        Due.is("one alloc: holds(3, 1)", x.holds(3, 1), 0);
    }

    // "for all statements given so far, in whatever order."
    private static void inWhateverOrder() {
        Call[] statements = {
            Call.of("alloc", 0, 2), Call.of("alloc", 1, 6), Call.of("copy", 2, 0),
            Call.of("store", 2, 1, 1), Call.of("load", 3, 0, 1), Call.of("copy", 4, 3)};
        for (int code = 0; code < 46656; code++) {
            int[] order = orderOf(code);
            if (order.length == 6) {
                RaceFinder x = new RaceFinder();
                for (int n : order) {
                    statements[n].on(x);
                }
                Due.is("order " + code + ": pointsTo(2)", x.pointsTo(2), 4);
                Due.is("order " + code + ": holds(2, 1)", x.holds(2, 1), 64);
                Due.is("order " + code + ": pointsTo(4)", x.pointsTo(4), 64);
            }
        }
    }

    /** The six digits of a number to the base six; none if two of them are equal. */
    private static int[] orderOf(int code) {
        int[] order = new int[6];
        int seen = 0;
        int rest = code;
        for (int n = 0; n < 6; n++) {
            order[n] = rest % 6;
            rest /= 6;
            seen |= 1 << order[n];
        }
        return seen == 63 ? order : new int[0];
    }

    // Promise 7: "inside the region 'around' (-1: inside none)"
    private static void insideNone() {
        RaceFinder x = withSites();
        x.once(0, true);
        x.once(1, true);
        Due.is("region(0, 0, -1)", x.region(0, 0, -1), 0);
        Due.is("region(0, 1, -1) beside it", x.region(0, 1, -1), 1);
        Due.is("held(5), inside none", x.held(5), 2);
        Due.is("region(0, 1, 0), inside region 0", x.region(0, 1, 0), 2);
        Due.is("held(6), inside region 0", x.held(6), 3);
        Due.is("region(0, 0, -2)", x.region(0, 0, -2), BAD);
    }

    // "The regions AROUND a region are the one it lies in, the one that lies in, and so on."
    private static void regionsAroundAndSoOn() {
        RaceFinder x = withSites();
        for (int s = 0; s < 8; s++) {
            x.once(s, true);
        }
        for (int r = 0; r < 12; r++) {
            x.region(1, r < 8 ? r : 11, r - 1);
        }
        for (int r = 0; r < 12; r++) {
            int due = r < 8 ? (2 << r) - 1 : 255;
            Due.is("held(" + (4 + r) + ") in a nest of twelve", x.held(4 + r), due);
        }
    }

    // "A PLACE is a thread outside all regions (a number 0 to 3) or a region (4 + its number)."
    private static void placesAreThreadsThenRegions() {
        RaceFinder x = withSites();
        x.once(5, true);
        Due.is("held(-1)", x.held(-1), BAD);
        Due.is("held(0)", x.held(0), 0);
        Due.is("held(3)", x.held(3), 0);
        Due.is("held(4), no regions", x.held(4), BAD);
        x.region(3, 5, -1);
        Due.is("held(3), beside region 0", x.held(3), 0);
        Due.is("held(4) is region 0", x.held(4), 32);
        Due.is("held(5), one region", x.held(5), BAD);
        for (int r = 1; r < 12; r++) {
            x.region(r % 4, 6, -1);
        }
        x.access(4, 0, 0, true);
        x.access(3, 0, 0, true);
        x.access(0, 0, 0, true);
        x.access(15, 0, 0, true);
        Due.is("place 4 is thread 3: race(0, 1)", x.race(0, 1), false);
        Due.is("and not thread 0: race(0, 2)", x.race(0, 2), true);
        Due.is("place 15 is thread 3: race(1, 3)", x.race(1, 3), false);
        Due.is("held(15)", x.held(15), 0);
        Due.is("held(16), twelve regions", x.held(16), BAD);
    }

    // "locks a variable v with P(v) being exactly {s}"
    private static void exactlyOneSite() {
        RaceFinder x = new RaceFinder();
        for (int s = 0; s < 8; s++) {
            x.once(s, true);
        }
        x.region(0, 9, -1);
        Due.is("held(4), P(v) is empty", x.held(4), 0);
        for (int s = 7; s >= 0; s--) {
            int size = x.alloc(9, s);
            Due.is("held(4), P(v) has " + size, x.held(4), size == 1 ? 128 : 0);
        }
        for (int s = 0; s < 8; s++) {
            RaceFinder y = withSites();
            y.once(s, true);
            y.region(2, s, -1);
            Due.is("held(4), P(v) is {" + s + "}", y.held(4), 1 << s);
            y.alloc(s, (s + 1) % 8);
            Due.is("held(4), P(v) has one more that is not ONCE", y.held(4), 0);
        }
    }

    // "and s is ONCE."
    private static void surelyHeldNeedsOnce() {
        for (int s = 0; s < 8; s++) {
            RaceFinder x = withSites();
            x.region(0, s, -1);
            for (int other = 0; other < 8; other++) {
                x.once(other, other != s);
            }
            Due.is("held(4), all but " + s + " are ONCE", x.held(4), 0);
            x.once(s, true);
            Due.is("held(4), " + s + " is ONCE", x.held(4), 1 << s);
            x.once(s, false);
            Due.is("held(4), " + s + " is not ONCE any more", x.held(4), 0);
        }
    }

    // "(None outside regions.)"
    private static void noneOutsideRegions() {
        RaceFinder x = withSites();
        for (int s = 0; s < 8; s++) {
            x.once(s, true);
        }
        for (int thread = 0; thread < 4; thread++) {
            x.region(thread, thread, -1);
        }
        for (int thread = 0; thread < 4; thread++) {
            Due.is("held(" + thread + ")", x.held(thread), 0);
            Due.is("held(" + (4 + thread) + ")", x.held(4 + thread), 1 << thread);
        }
    }

    // "TWO ACCESSES RACE if their places belong to different threads"
    private static void differentThreads() {
        for (int a = 0; a < 8; a++) {
            for (int b = 0; b < 8; b++) {
                RaceFinder x = withSites();
                for (int thread = 0; thread < 4; thread++) {
                    x.region(thread, 11, -1);
                }
                x.access(a, 0, 0, true);
                x.access(b, 0, 0, true);
                Due.is("race of places " + a + " and " + b, x.race(0, 1), a % 4 != b % 4);
            }
        }
    }

    // "they have the same field"
    private static void theSameField() {
        for (int f = 0; f < 2; f++) {
            for (int g = 0; g < 2; g++) {
                RaceFinder x = withSites();
                x.access(0, 0, f, true);
                x.access(3, 0, g, true);
                Due.is("race of fields " + f + " and " + g, x.race(0, 1), f == g);
            }
        }
    }

    // "at least one writes"
    private static void atLeastOneWrites() {
        RaceFinder x = withSites();
        x.access(0, 0, 0, false);
        x.access(1, 0, 0, false);
        x.access(2, 0, 0, true);
        x.access(3, 0, 0, true);
        Due.is("none writes", x.race(0, 1), false);
        Due.is("the second writes", x.race(0, 2), true);
        Due.is("the first writes", x.race(2, 0), true);
        Due.is("both write", x.race(2, 3), true);
    }

    // "some site is in the points-to sets of both variables"
    private static void someSiteInBoth() {
        RaceFinder x = new RaceFinder();
        x.access(0, 0, 0, true);
        x.access(1, 1, 0, true);
        x.access(2, 0, 0, true);
        Due.is("both sets are empty", x.race(0, 1), false);
        Due.is("the same variable, its set is empty", x.race(0, 2), false);
        x.alloc(0, 0);
        Due.is("the other set is empty", x.race(0, 1), false);
        Due.is("the same variable, one site", x.race(0, 2), true);
        x.alloc(1, 7);
        Due.is("a site each, not the same", x.race(0, 1), false);
        x.alloc(0, 7);
        Due.is("one site in both", x.race(0, 1), true);
        x.alloc(1, 0);
        Due.is("two sites in both", x.race(0, 1), true);
    }

    // "and no site is surely held at both places."
    private static void noSiteHeldAtBoth() {
        RaceFinder x = withSites();
        x.region(0, 1, -1);
        x.region(0, 2, 0);
        x.region(1, 2, -1);
        x.region(1, 3, 2);
        x.access(5, 0, 0, true);
        x.access(7, 0, 0, true);
        Due.is("nothing is held", x.race(0, 1), true);
        x.once(1, true);
        Due.is("held at the first place alone", x.race(0, 1), true);
        x.once(3, true);
        Due.is("held at each place, not the same", x.race(0, 1), true);
        x.once(2, true);
        Due.is("one site of two held at both", x.race(0, 1), false);
        x.once(2, false);
        Due.is("that site is not ONCE any more", x.race(0, 1), true);
    }

    // "whenever a region that locks w lies around a region that locks v (at any distance)"
    private static void stepsAtAnyDistance() {
        for (int between = 0; between < 9; between++) {
            RaceFinder x = withSites();
            step(x, 1, 7, 0);
            int around = x.region(0, 0, -1);
            for (int n = 0; n < between; n++) {
                around = x.region(0, 11, around);
            }
            Due.is("no step yet", x.danger(), 0);
            Due.is("the inner region stands", x.region(0, 7, around), 3 + between);
            Due.is(between + " regions between", x.danger(), 129);
        }
    }

    private static void aRegionIsNotAroundItself() {
        RaceFinder x = withSites();
        for (int thread = 0; thread < 4; thread++) {
            x.region(thread, 3, -1);
        }
        Due.is("regions alone", x.danger(), 0);
        step(x, 0, 3, 3);
        step(x, 1, 3, 3);
        Due.is("one in the other", x.danger(), 8);
    }

    // "but not if s == t and s is ONCE"
    private static void noStepToItselfIfOnce() {
        for (int s = 0; s < 8; s++) {
            RaceFinder x = withSites();
            step(x, 0, s, s);
            step(x, 3, s, s);
            for (int other = 0; other < 8; other++) {
                x.once(other, other != s);
            }
            Due.is("s == t, all but " + s + " are ONCE", x.danger(), 1 << s);
            x.once(s, true);
            Due.is("s == t and " + s + " is ONCE", x.danger(), 0);
            step(x, 0, s, (s + 1) % 8);
            step(x, 3, (s + 1) % 8, s);
            Due.is("s != t, both ONCE", x.danger(), 1 << s | 1 << (s + 1) % 8);
        }
    }

    // "(from it, over one or more steps, back to it"
    private static void wayOfOneStepAndOfEight() {
        RaceFinder x = withSites();
        step(x, 0, 5, 5);
        step(x, 2, 5, 5);
        Due.is("one step", x.danger(), 32);
        x = withSites();
        int around = -1;
        // Seven steps on by one thread; the step back by the other closes a way
        // over all eight sites.
        for (int s = 0; s < 8; s++) {
            around = x.region(0, s, around);
        }
        Due.is("no way back", x.danger(), 0);
        step(x, 1, 7, 0);
        Due.is("over all eight sites", x.danger(), 255);
        x = withSites();
        int[] ring = {0, 3, 6, 1, 4, 7};
        for (int n = 0; n < 5; n++) {
            step(x, n % 4, ring[n], ring[n + 1]);
        }
        Due.is("a ring of six, open", x.danger(), 0);
        step(x, 1, 7, 0);
        Due.is("a ring of six, over no shorter way", x.danger(), 1 | 8 | 64 | 2 | 16 | 128);
    }

    // "steps may be used more than once)"
    private static void stepsUsedMoreThanOnce() {
        RaceFinder x = withSites();
        step(x, 0, 0, 1);
        step(x, 1, 0, 1);
        Due.is("two threads' steps on, none back", x.danger(), 0);
        step(x, 0, 1, 0);
        Due.is("one thread's step back, used twice", x.danger(), 3);
        x = withSites();
        step(x, 0, 0, 1);
        step(x, 0, 1, 0);
        step(x, 0, 1, 2);
        step(x, 1, 2, 1);
        Due.is("0 and back over the way by 2", x.danger(), 7);
    }

    // "and has steps by at least two different threads."
    private static void atLeastTwoThreads() {
        for (int threads = 1; threads <= 4; threads++) {
            RaceFinder x = withSites();
            for (int n = 0; n < 4; n++) {
                step(x, n % threads, n, (n + 1) % 4);
            }
            Due.is("a ring by " + threads + " threads", x.danger(), threads == 1 ? 0 : 15);
        }
    }

    // Promise 1: "No statements, no regions, no accesses; no site is ONCE."
    private static void newObject() {
        RaceFinder x = new RaceFinder();
        Due.is("new: races()", x.races(), 0);
        Due.is("new: race(0, 0)", x.race(0, 0), false);
        Due.is("new: danger()", x.danger(), 0);
        Due.is("new: held(4)", x.held(4), BAD);
        Due.is("new: region(0, 0, 0)", x.region(0, 0, 0), BAD);
        for (int v = 0; v < 12; v++) {
            Due.is("new: pointsTo(" + v + ")", x.pointsTo(v), 0);
        }
        for (int s = 0; s < 8; s++) {
            Due.is("new: holds(" + s + ", 0)", x.holds(s, 0), 0);
            Due.is("new: holds(" + s + ", 1)", x.holds(s, 1), 0);
            Due.is("new: once(" + s + ", true)", x.once(s, true), 0);
        }
    }

    // Promise 2: "Else answers how many sites P(v) has now."
    private static void allocCounts() {
        RaceFinder x = new RaceFinder();
        for (int s = 0; s < 8; s++) {
            Due.is("alloc(5, " + s + ")", x.alloc(5, s), s + 1);
            Due.is("alloc(5, " + s + ") again", x.alloc(5, s), s + 1);
        }
        // One site can bring others with it: what counts is the set after all of it.
        x = new RaceFinder();
        for (int s = 0; s < 8; s++) {
            x.alloc(4, s);
        }
        x.alloc(2, 5);
        x.store(2, 0, 4);
        Due.is("load(0, 0, 0), empty", x.load(0, 0, 0), 0);
        Due.is("alloc(0, 4), which brings none", x.alloc(0, 4), 1);
        Due.is("alloc(0, 5), which brings all", x.alloc(0, 5), 8);
    }

    // Promise 3: "Else answers how many sites P(v) has now."
    private static void copyCounts() {
        RaceFinder x = new RaceFinder();
        Due.is("copy(0, 1), both empty", x.copy(0, 1), 0);
        Due.is("copy(2, 2), empty", x.copy(2, 2), 0);
        x.alloc(2, 7);
        Due.is("copy(2, 2), one site", x.copy(2, 2), 1);
        Due.is("copy(2, 3), of nothing", x.copy(2, 3), 1);
        Due.is("copy(3, 2), which is mutual", x.copy(3, 2), 1);
        for (int s = 0; s < 8; s++) {
            x.alloc(4, s);
        }
        Due.is("copy(3, 4), all", x.copy(3, 4), 8);
        Due.is("copy(2, 4), when it has all", x.copy(2, 4), 8);
        x = new RaceFinder();
        for (int w = 0; w < 11; w++) {
            Due.is("copy(11, " + w + "), of nothing", x.copy(11, w), 0);
        }
        for (int s = 0; s < 8; s++) {
            x.alloc(s, s);
            Due.is("every copy counts, also those of " + s, x.copy(11, 11), s + 1);
        }
    }

    // Promise 4: "Else answers how many sites P(v) has now."
    private static void loadCounts() {
        RaceFinder x = new RaceFinder();
        Due.is("load(0, 1, 0), both empty", x.load(0, 1, 0), 0);
        Due.is("load(2, 2, 1), empty", x.load(2, 2, 1), 0);
        x.alloc(1, 3);
        Due.is("load(0, 1, 1), the field is empty", x.load(0, 1, 1), 0);
        x.alloc(0, 5);
        Due.is("load(0, 1, 0), has one of its own", x.load(0, 1, 0), 1);
        for (int s = 0; s < 8; s++) {
            x.alloc(4, s);
        }
        x.store(1, 0, 4);
        Due.is("load(6, 1, 0), all", x.load(6, 1, 0), 8);
        Due.is("load(7, 1, 1), the other field", x.load(7, 1, 1), 0);
    }

    // Promise 5: "Else answers 0."
    private static void storeAnswersZero() {
        RaceFinder x = new RaceFinder();
        Due.is("store of nothing to nothing", x.store(0, 0, 1), 0);
        x.alloc(0, 2);
        Due.is("store of nothing", x.store(0, 1, 1), 0);
        x.alloc(1, 7);
        Due.is("store of a site", x.store(0, 1, 1), 0);
        Due.is("store of the same again", x.store(0, 1, 1), 0);
        Due.is("store of an object into itself", x.store(0, 0, 0), 0);
        x.load(0, 0, 1);
        Due.is("store that grows its own base", x.store(0, 1, 0), 0);
    }

    // Promise 6: "Else answers 1 if it was before, 0 if not."
    private static void onceAnswersBefore() {
        for (int s = 0; s < 8; s++) {
            RaceFinder x = new RaceFinder();
            Due.is("off, never on: once(" + s + ", false)", x.once(s, false), 0);
            Due.is("on: once(" + s + ", true)", x.once(s, true), 0);
            Due.is("on again: once(" + s + ", true)", x.once(s, true), 1);
            Due.is("off: once(" + s + ", false)", x.once(s, false), 1);
            Due.is("off again: once(" + s + ", false)", x.once(s, false), 0);
            x.once(s, true);
            for (int other = 0; other < 8; other++) {
                Due.is("after " + s + ": once(" + other + ", false)", x.once(other, false), other == s ? 1 : 0);
            }
        }
    }

    // Promises 7 and 8: "Else answers its number, from 0."
    private static void numbersFromZero() {
        RaceFinder x = new RaceFinder();
        Due.is("the first access", x.access(0, 0, 0, false), 0);
        Due.is("the first region", x.region(3, 0, -1), 0);
        Due.is("the second region", x.region(0, 0, -1), 1);
        Due.is("the second access", x.access(5, 0, 0, false), 1);
        for (int r = 2; r < 12; r++) {
            Due.is("region " + r, x.region(r % 4, 0, -1), r);
        }
        for (int a = 2; a < 16; a++) {
            Due.is("access " + a, x.access(a, 0, 0, false), a);
        }
    }

    // Promise 9: "P(v) as a mask, bit s for site s"
    private static void pointsToIsAMask() {
        for (int mask = 0; mask < 256; mask++) {
            RaceFinder x = new RaceFinder();
            for (int s = 0; s < 8; s++) {
                if ((mask >> s & 1) != 0) {
                    x.alloc(11, s);
                }
            }
            Due.is("pointsTo(11) of " + mask, x.pointsTo(11), mask);
        }
    }

    // Promise 10: "H(s, f) as a mask"
    private static void holdsIsAMask() {
        for (int mask = 0; mask < 256; mask++) {
            RaceFinder x = new RaceFinder();
            x.alloc(0, 7);
            for (int s = 0; s < 8; s++) {
                if ((mask >> s & 1) != 0) {
                    x.alloc(11, s);
                }
            }
            x.store(0, 1, 11);
            Due.is("holds(7, 1) of " + mask, x.holds(7, 1), mask);
            Due.is("holds(7, 0) beside " + mask, x.holds(7, 0), 0);
        }
    }

    // Promise 11: "false if one doesn't exist."
    private static void raceOfOneThatDoesNotExist() {
        RaceFinder x = withSites();
        int[] never = {Integer.MIN_VALUE, Integer.MIN_VALUE + 1, -16, -2, -1, 16, 17, 32, 256, Integer.MAX_VALUE};
        for (int count = 0; count <= 16; count++) {
            for (int n : never) {
                Due.is(count + " accesses: race(0, " + n + ")", x.race(0, n), false);
                Due.is(count + " accesses: race(" + n + ", 0)", x.race(n, 0), false);
            }
            Due.is("race(0, " + count + "), the one to come", x.race(0, count), false);
            Due.is("race(" + count + ", 0), the one to come", x.race(count, 0), false);
            if (count < 16) {
                x.access(count == 0 ? 0 : 1, 0, 0, true);
                Due.is("race(0, " + count + "), the newest", x.race(0, count), count > 0);
                Due.is("race(" + count + ", 0), the newest", x.race(count, 0), count > 0);
            }
        }
    }

    // Promise 12: "How many pairs i < j of accesses race."
    private static void racesCountsEachPairOnce() {
        RaceFinder x = withSites();
        Due.is("races() of none", x.races(), 0);
        x.access(0, 0, 0, true);
        Due.is("races() of one", x.races(), 0);
        x.access(1, 0, 0, true);
        Due.is("races() of two", x.races(), 1);
        x.access(1, 0, 0, true);
        Due.is("races() of two pairs", x.races(), 2);
        x = withSites();
        for (int a = 0; a < 16; a++) {
            x.access(a % 4, 0, 0, true);
        }
        Due.is("races(), the most there can be", x.races(), 96);
        x = withSites();
        for (int a = 0; a < 15; a++) {
            x.access(0, 0, 0, true);
        }
        x.access(3, 0, 0, true);
        Due.is("races() with the last one", x.races(), 15);
    }

    // Promise 14: "All sites in danger, as a mask."
    private static void dangerOfNoneAndOfAll() {
        RaceFinder x = withSites();
        Due.is("danger() without regions", x.danger(), 0);
        x.region(0, 0, -1);
        Due.is("danger() of one region", x.danger(), 0);
        for (int s = 0; s < 8; s++) {
            x = withSites();
            int t = (s + 3) % 8;
            step(x, 1, s, t);
            step(x, 2, t, s);
            Due.is("danger() of " + s + " and " + t, x.danger(), 1 << s | 1 << t);
        }
        x = withSites();
        step(x, 0, 0, 1);
        step(x, 1, 1, 0);
        step(x, 2, 6, 7);
        step(x, 3, 7, 6);
        Due.is("danger() of two rings apart", x.danger(), 195);
        x = new RaceFinder();
        step(x, 0, 0, 0);
        step(x, 1, 0, 0);
        Due.is("danger() of empty sets", x.danger(), 0);
        for (int s = 0; s < 8; s++) {
            x.alloc(0, s);
        }
        Due.is("danger() of all sites", x.danger(), 255);
    }

    // "An object is used for at most 512 calls after it has been made": the 512th still counts.
    private static void theLastOf512Calls() {
        RaceFinder x = new RaceFinder();
        for (int n = 0; n < 509; n++) {
            x.copy(n % 11, (n + 1) % 11);
        }
        x.copy(11, 10);
        Due.is("call 511: alloc(0, 7) behind 510 copies", x.alloc(0, 7), 1);
        Due.is("call 512: pointsTo(11)", x.pointsTo(11), 128);
        x = new RaceFinder();
        for (int n = 0; n < 509; n++) {
            x.alloc(n % 11, n % 7);
        }
        x.alloc(11, 7);
        Due.is("call 511: copy(11, 0) behind 510 allocs", x.copy(11, 0), 8);
        Due.is("call 512: pointsTo(11)", x.pointsTo(11), 255);
        x = new RaceFinder();
        for (int n = 0; n < 510; n++) {
            x.access(4, 0, 0, true);
        }
        Due.is("call 511: region(0, 0, -1)", x.region(0, 0, -1), 0);
        Due.is("call 512: access(4, 0, 0, true)", x.access(4, 0, 0, true), 0);
        x = new RaceFinder();
        for (int n = 0; n < 511; n++) {
            x.once(n % 8, n % 16 < 8);
        }
        Due.is("call 512: once(7, false)", x.once(7, false), 1);
    }
}
