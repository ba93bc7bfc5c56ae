import java.util.ArrayList;
import java.util.List;

/**
 * All promises: long runs of mixed calls, each answer set against that of Model. The
 * numbers come from a fixed row, so that every run of this test is the same.
 */
public final class ModelTest {
    private static final int RUNS = 3000;
    private static final int CALLS = 160;

    private static long row = 20261115L;
    private static final List<Integer> regionThreads = new ArrayList<>();
    private static int races = 0;
    private static int dangers = 0;
    private static int locks = 0;

    public static void main(String[] args) {
        for (int run = 0; run < RUNS; run++) {
            // Few variables and sites make the sets meet; many keep them small.
            int variables = 2 + next(11);
            int sites = 1 + next(8);
            RaceFinder x = new RaceFinder();
            Model m = new Model();
            regionThreads.clear();
            for (int n = 0; n < CALLS; n++) {
                call(run, x, m, variables, sites);
            }
            compareAll(run, x, m);
        }
        Due.is("races in one of ten runs, of " + races, races > RUNS / 10, true);
        Due.is("locks in one of ten runs, of " + locks, locks > RUNS / 10, true);
        Due.is("dangers in one of ten runs, of " + dangers, dangers > RUNS / 10, true);
        Due.end();
    }

    private static int next(int bound) {
        row = row * 6364136223846793005L + 1442695040888963407L;
        return (int) ((row >>> 33) % bound);
    }

    /** Mostly below the bound, now and then just outside or far outside. */
    private static int number(int bound) {
        int kind = next(60);
        if (kind == 0) {
            return -1 - next(2);
        }
        if (kind == 1) {
            return bound + next(12);
        }
        if (kind == 2) {
            return next(2) == 0 ? Integer.MIN_VALUE : Integer.MAX_VALUE;
        }
        return next(bound);
    }

    private static void call(int run, RaceFinder x, Model m, int variables, int sites) {
        int kind = next(16);
        int v = number(variables);
        int w = number(variables);
        int s = number(sites);
        int f = number(2);
        boolean flag = next(2) == 0;
        String head = "run " + run + ": ";
        switch (kind) {
            case 0 -> {
                // Rarely, or all sets would soon be full.
                if (next(3) == 0) {
                    Due.is(head + "alloc(" + v + ", " + s + ")", x.alloc(v, s), m.alloc(v, s));
                }
            }
            case 1 -> {
                if (next(4) == 0) {
                    Due.is(head + "copy(" + v + ", " + w + ")", x.copy(v, w), m.copy(v, w));
                }
            }
            case 2 -> {
                if (next(3) == 0) {
                    Due.is(head + "load(" + v + ", " + w + ", " + f + ")", x.load(v, w, f), m.load(v, w, f));
                }
            }
            case 3 -> {
                if (next(3) == 0) {
                    Due.is(head + "store(" + v + ", " + f + ", " + w + ")", x.store(v, f, w), m.store(v, f, w));
                }
            }
            case 4, 5 -> Due.is(head + "once(" + s + ", " + flag + ")", x.once(s, flag), m.once(s, flag));
            case 6, 7 -> {
                int around = next(3) == 0 ? -1 : number(1 + regionThreads.size());
                boolean inside = around >= 0 && around < regionThreads.size() && next(8) != 0;
                int thread = inside ? regionThreads.get(around) : number(4);
                int due = m.region(thread, v, around);
                Due.is(head + "region(" + thread + ", " + v + ", " + around + ")",
                    x.region(thread, v, around), due);
                if (due >= 0) {
                    regionThreads.add(thread);
                }
            }
            case 8, 9 -> {
                int place = number(16);
                Due.is(head + "access(" + place + ", " + v + ", " + f + ", " + flag + ")",
                    x.access(place, v, f, flag), m.access(place, v, f, flag));
            }
            case 10 -> Due.is(head + "pointsTo(" + v + ")", x.pointsTo(v), m.pointsTo(v));
            case 11 -> Due.is(head + "holds(" + s + ", " + f + ")", x.holds(s, f), m.holds(s, f));
            case 12 -> {
                int i = number(16);
                int j = number(16);
                Due.is(head + "race(" + i + ", " + j + ")", x.race(i, j), m.race(i, j));
            }
            case 13 -> Due.is(head + "races()", x.races(), m.races());
            case 14 -> {
                int place = number(16);
                Due.is(head + "held(" + place + ")", x.held(place), m.held(place));
            }
            default -> Due.is(head + "danger()", x.danger(), m.danger());
        }
    }

    private static void compareAll(int run, RaceFinder x, Model m) {
        String head = "run " + run + ", at its end: ";
        for (int v = 0; v < 12; v++) {
            Due.is(head + "pointsTo(" + v + ")", x.pointsTo(v), m.pointsTo(v));
        }
        for (int s = 0; s < 8; s++) {
            Due.is(head + "holds(" + s + ", 0)", x.holds(s, 0), m.holds(s, 0));
            Due.is(head + "holds(" + s + ", 1)", x.holds(s, 1), m.holds(s, 1));
        }
        for (int place = 0; place < 17; place++) {
            int held = m.held(place);
            locks += held > 0 ? 1 : 0;
            Due.is(head + "held(" + place + ")", x.held(place), held);
        }
        for (int i = 0; i < 16; i++) {
            for (int j = 0; j < 16; j++) {
                Due.is(head + "race(" + i + ", " + j + ")", x.race(i, j), m.race(i, j));
            }
        }
        int pairs = m.races();
        int danger = m.danger();
        races += pairs > 0 ? 1 : 0;
        dangers += danger > 0 && danger < 255 ? 1 : 0;
        Due.is(head + "races()", x.races(), pairs);
        Due.is(head + "danger()", x.danger(), danger);
    }
}
