import java.util.ArrayList;
import java.util.List;

/**
 * "A variable not in 0 to 11, a site not in 0 to 7, a field not in 0 or 1, a thread not in
 * 0 to 3, a region or place that doesn't exist is BAD_NUMBER." One test for each part of
 * the sentence, at every argument of every call that takes such a number, in a new object,
 * in one that has something of everything, and in one that is full.
 */
public final class NumbersTest {
    private static final int BAD = RaceFinder.BAD_NUMBER;
    private static final List<Integer> NUMBERS = numbers();

    private record Argument(Call call, int position) { }

    private static final List<Argument> VARIABLES = List.of(
        new Argument(Call.of("alloc", 0, 7), 0),
        new Argument(Call.of("copy", 0, 11), 0),
        new Argument(Call.of("copy", 11, 0), 1),
        new Argument(Call.of("load", 0, 11, 1), 0),
        new Argument(Call.of("load", 11, 0, 0), 1),
        new Argument(Call.of("store", 0, 1, 11), 0),
        new Argument(Call.of("store", 11, 0, 0), 2),
        new Argument(Call.of("region", 3, 0, -1), 1),
        new Argument(Call.of("access", 3, 0, 1, 1), 1),
        new Argument(Call.of("pointsTo", 0), 0));
    private static final List<Argument> SITES = List.of(
        new Argument(Call.of("alloc", 11, 0), 1),
        new Argument(Call.of("once", 0, 1), 0),
        new Argument(Call.of("once", 0, 0), 0),
        new Argument(Call.of("holds", 0, 0), 0),
        new Argument(Call.of("holds", 0, 1), 0));
    private static final List<Argument> FIELDS = List.of(
        new Argument(Call.of("load", 0, 11, 0), 2),
        new Argument(Call.of("store", 11, 0, 0), 1),
        new Argument(Call.of("access", 0, 11, 0, 0), 2),
        new Argument(Call.of("holds", 0, 0), 1),
        new Argument(Call.of("holds", 7, 0), 1));
    private static final List<Argument> THREADS = List.of(
        new Argument(Call.of("region", 0, 11, -1), 0));
    private static final List<Argument> PLACES = List.of(
        new Argument(Call.of("access", 0, 11, 1, 0), 0),
        new Argument(Call.of("held", 0), 0));

    public static void main(String[] args) {
        aVariableNotIn0To11();
        aSiteNotIn0To7();
        aFieldNotIn0Or1();
        aThreadNotIn0To3();
        aRegionThatDoesNotExist();
        aPlaceThatDoesNotExist();
        aroundIsAnotherThreads();
        aPlaceIsThereAsSoonAsItsRegion();
        oneWrongNumberIsEnough();
        Due.end();
    }

    /** All small numbers, and those that a shift, a narrower type or a sum could take for small ones. */
    private static List<Integer> numbers() {
        List<Integer> all = new ArrayList<>();
        for (int n = -70; n <= 270; n++) {
            all.add(n);
        }
        for (int near = -20; near <= 20; near++) {
            all.add(65536 + near);
            all.add(-65536 + near);
            all.add((1 << 30) + near);
            all.add(Integer.MIN_VALUE + (near + 20));
            all.add(Integer.MAX_VALUE - (near + 20));
        }
        return all;
    }

    private static void takenFrom0To(int last, List<Argument> arguments) {
        for (State state : State.values()) {
            for (Argument a : arguments) {
                for (int n : NUMBERS) {
                    Call call = a.call().with(a.position(), n);
                    boolean bad = n < 0 || n > last;
                    Due.is(state + ": " + call + " is BAD_NUMBER", call.on(state.make()) == BAD, bad);
                }
            }
        }
    }

    private static void aVariableNotIn0To11() {
        takenFrom0To(11, VARIABLES);
    }

    private static void aSiteNotIn0To7() {
        takenFrom0To(7, SITES);
    }

    private static void aFieldNotIn0Or1() {
        takenFrom0To(1, FIELDS);
    }

    private static void aThreadNotIn0To3() {
        takenFrom0To(3, THREADS);
    }

    private static boolean canLieIn(State state, int thread, int around) {
        if (around == -1) {
            return true;
        }
        return around >= 0 && around < state.regions() && state.threadOfRegion(around) == thread;
    }

    private static void aRegionThatDoesNotExist() {
        for (State state : State.values()) {
            for (int thread = 0; thread < 4; thread++) {
                for (int around : NUMBERS) {
                    Call call = Call.of("region", thread, 5, around);
                    boolean bad = !canLieIn(state, thread, around);
                    Due.is(state + ": " + call + " is BAD_NUMBER", call.on(state.make()) == BAD, bad);
                }
            }
        }
    }

    private static void aPlaceThatDoesNotExist() {
        for (State state : State.values()) {
            for (Argument a : PLACES) {
                for (int n : NUMBERS) {
                    Call call = a.call().with(a.position(), n);
                    boolean bad = n < 0 || n > 3 + state.regions();
                    Due.is(state + ": " + call + " is BAD_NUMBER", call.on(state.make()) == BAD, bad);
                }
            }
        }
    }

    // Promise 7: "BAD_NUMBER (also if 'around' is another thread's)".
    private static void aroundIsAnotherThreads() {
        for (int owner = 0; owner < 4; owner++) {
            for (int thread = 0; thread < 4; thread++) {
                RaceFinder x = new RaceFinder();
                Due.is("region(" + owner + ", 0, -1)", x.region(owner, 0, -1), 0);
                Due.is("region(" + thread + ", 0, 0) in one of thread " + owner,
                    x.region(thread, 0, 0), owner == thread ? 1 : BAD);
            }
        }
    }

    private static void aPlaceIsThereAsSoonAsItsRegion() {
        RaceFinder x = new RaceFinder();
        for (int r = 0; r < 12; r++) {
            Due.is("held(" + (4 + r) + ") ahead of region " + r, x.held(4 + r), BAD);
            Due.is("access ahead of region " + r, x.access(4 + r, 0, 0, true), BAD);
            Due.is("region " + r + " inside itself", x.region(2, 0, r), BAD);
            Due.is("region " + r, x.region(2, 0, r - 1), r);
            Due.is("held(" + (4 + r) + ") after region " + r, x.held(4 + r), 0);
            Due.is("access after region " + r, x.access(4 + r, 0, 0, true), r);
        }
    }

    // A number that is wrong is BAD_NUMBER whatever the other numbers are, wrong ones too.
    private static void oneWrongNumberIsEnough() {
        Call[] calls = {
            Call.of("alloc", 0, 0), Call.of("copy", 0, 0), Call.of("load", 0, 0, 0),
            Call.of("store", 0, 0, 0), Call.of("region", 0, 0, -1), Call.of("access", 0, 0, 0, 1),
            Call.of("holds", 0, 0)};
        int[] sizes = {2, 2, 3, 3, 3, 3, 2};
        for (State state : State.values()) {
            for (int c = 0; c < calls.length; c++) {
                for (int p = 0; p < sizes[c]; p++) {
                    for (int q = 0; q < sizes[c]; q++) {
                        Call call = calls[c].with(p, 99).with(q, -5);
                        Due.is(state + ": " + call, call.on(state.make()), BAD);
                    }
                }
            }
        }
    }
}
