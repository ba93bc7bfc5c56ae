import java.util.ArrayList;
import java.util.EnumMap;
import java.util.List;
import java.util.Map;

/**
 * "A refused call changes nothing." and "The calls below change nothing.": after such a call
 * an object answers every later call just as an object does that was not given it. The later
 * calls are of several kinds, each on an object of its own: all questions; more statements
 * about one variable, which show statements that lay hidden; filling all that has a limit,
 * which shows how much of it was used; and taking ONCE from all sites.
 */
public final class UnchangedTest {
    private static final int BAD = RaceFinder.BAD_NUMBER;
    private static final int FULL = RaceFinder.FULL;
    private static final int[] WRONG = {
        Integer.MIN_VALUE, Integer.MIN_VALUE + 4, -256, -64, -33, -32, -31, -12, -8, -4, -3, -2, -1,
        12, 13, 16, 31, 32, 33, 63, 64, 75, 256, 257, 65536, Integer.MAX_VALUE - 3, Integer.MAX_VALUE};

    private static final List<List<Call>> LATER = laterCalls();
    private static final Map<State, List<int[]>> PLAIN = new EnumMap<>(State.class);

    public static void main(String[] args) {
        for (State state : State.values()) {
            PLAIN.put(state, answersAfter(state, null));
        }
        aRefusedAllocChangesNothing();
        aRefusedCopyChangesNothing();
        aRefusedLoadChangesNothing();
        aRefusedStoreChangesNothing();
        aRefusedOnceChangesNothing();
        aRefusedRegionChangesNothing();
        aRefusedAccessChangesNothing();
        aFullLoadChangesNothing();
        aFullStoreChangesNothing();
        aFullRegionChangesNothing();
        aFullAccessChangesNothing();
        pointsToChangesNothing();
        holdsChangesNothing();
        raceChangesNothing();
        racesChangesNothing();
        heldChangesNothing();
        dangerChangesNothing();
        whatIsTakenDoesChange();
        Due.end();
    }

    private static List<List<Call>> laterCalls() {
        List<List<Call>> all = new ArrayList<>();
        all.add(questions());
        for (int v = 0; v < 12; v++) {
            all.add(moreAbout(v));
        }
        all.add(fillAll());
        all.add(takeOnce());
        return all;
    }

    private static List<Call> sets() {
        List<Call> calls = new ArrayList<>();
        for (int v = 0; v < 12; v++) {
            calls.add(Call.of("pointsTo", v));
        }
        for (int s = 0; s < 8; s++) {
            calls.add(Call.of("holds", s, 0));
            calls.add(Call.of("holds", s, 1));
        }
        return calls;
    }

    private static List<Call> questions() {
        List<Call> calls = sets();
        for (int place = 0; place <= 16; place++) {
            calls.add(Call.of("held", place));
        }
        for (int j = 0; j < 16; j++) {
            for (int i = 0; i <= j; i++) {
                calls.add(Call.of("race", i, j));
            }
        }
        calls.add(Call.of("races"));
        calls.add(Call.of("danger"));
        return calls;
    }

    private static List<Call> moreAbout(int v) {
        List<Call> calls = new ArrayList<>();
        for (int s = 0; s < 8; s++) {
            calls.add(Call.of("alloc", v, s));
        }
        calls.addAll(sets());
        calls.add(Call.of("store", v, 0, v));
        calls.add(Call.of("store", v, 1, v));
        calls.addAll(questions());
        return calls;
    }

    private static List<Call> fillAll() {
        List<Call> calls = new ArrayList<>();
        for (int n = 0; n < 21; n++) {
            calls.add(Call.of("load", 6, 6, 0));
            calls.add(Call.of("store", 6, 0, 6));
        }
        for (int r = 0; r < 13; r++) {
            calls.add(Call.of("region", 2, 0, -1));
        }
        for (int a = 0; a < 17; a++) {
            calls.add(Call.of("access", 2, 0, 0, 1));
        }
        calls.addAll(questions());
        return calls;
    }

    private static List<Call> takeOnce() {
        List<Call> calls = new ArrayList<>();
        for (int s = 0; s < 8; s++) {
            calls.add(Call.of("once", s, 0));
        }
        calls.addAll(questions());
        return calls;
    }

    private static List<int[]> answersAfter(State state, Call first) {
        List<int[]> all = new ArrayList<>();
        for (List<Call> later : LATER) {
            RaceFinder x = state.make();
            if (first != null) {
                first.on(x);
            }
            int[] answers = new int[later.size()];
            for (int n = 0; n < answers.length; n++) {
                answers[n] = later.get(n).on(x);
            }
            all.add(answers);
        }
        return all;
    }

    /** The first later call that answers otherwise than without this one; none: an empty text. */
    private static String changeBy(State state, Call call) {
        List<int[]> plain = PLAIN.get(state);
        List<int[]> after = answersAfter(state, call);
        for (int kind = 0; kind < plain.size(); kind++) {
            for (int n = 0; n < plain.get(kind).length; n++) {
                int due = plain.get(kind)[n];
                int got = after.get(kind)[n];
                if (got != due) {
                    return LATER.get(kind).get(n) + " answers " + got + " and not " + due;
                }
            }
        }
        return "";
    }

    private static void changesNothing(State state, Call call) {
        String change = changeBy(state, call);
        Due.is(state + ": " + call + " changes nothing: " + change, change.isEmpty(), true);
    }

    private static void refused(State state, Call call, int answer) {
        Due.is(state + ": " + call, call.on(state.make()), answer);
        changesNothing(state, call);
    }

    /** In every state, each argument wrong in turn; given is the first number too large for each. */
    private static void badNumbers(Call call, int... tooLarge) {
        for (State state : State.values()) {
            for (int position = 0; position < tooLarge.length; position++) {
                refused(state, call.with(position, tooLarge[position]), BAD);
                for (int n : WRONG) {
                    refused(state, call.with(position, n), BAD);
                }
            }
        }
    }

    private static void aRefusedAllocChangesNothing() {
        badNumbers(Call.of("alloc", 6, 5), 12, 8);
    }

    private static void aRefusedCopyChangesNothing() {
        badNumbers(Call.of("copy", 6, 0), 12, 12);
        badNumbers(Call.of("copy", 0, 6), 12, 12);
    }

    private static void aRefusedLoadChangesNothing() {
        badNumbers(Call.of("load", 6, 0, 0), 12, 12, 2);
        badNumbers(Call.of("load", 6, 1, 1), 12, 12, 2);
    }

    private static void aRefusedStoreChangesNothing() {
        badNumbers(Call.of("store", 2, 1, 0), 12, 2, 12);
        badNumbers(Call.of("store", 1, 0, 0), 12, 2, 12);
    }

    private static void aRefusedOnceChangesNothing() {
        for (State state : State.values()) {
            for (int on = 0; on < 2; on++) {
                refused(state, Call.of("once", 8, on), BAD);
                for (int n : WRONG) {
                    refused(state, Call.of("once", n, on), BAD);
                }
            }
        }
    }

    private static void aRefusedRegionChangesNothing() {
        badNumbers(Call.of("region", 0, 1, -1), 4, 12);
        for (State state : State.values()) {
            refused(state, Call.of("region", 0, 1, state.regions()), BAD);
            for (int n : WRONG) {
                if (n != -1) {
                    refused(state, Call.of("region", 0, 1, n), BAD);
                }
            }
            for (int around = 0; around < state.regions(); around++) {
                int other = (state.threadOfRegion(around) + 1) % 4;
                refused(state, Call.of("region", other, 1, around), BAD);
            }
        }
    }

    private static void aRefusedAccessChangesNothing() {
        for (State state : State.values()) {
            for (int write = 0; write < 2; write++) {
                Call call = Call.of("access", 1, 0, 0, write);
                refused(state, call.with(0, 4 + state.regions()), BAD);
                refused(state, call.with(1, 12), BAD);
                refused(state, call.with(2, 2), BAD);
                for (int n : WRONG) {
                    refused(state, call.with(1, n), BAD);
                    refused(state, call.with(2, n), BAD);
                    if (n < 0 || n >= 4 + state.regions()) {
                        refused(state, call.with(0, n), BAD);
                    }
                }
            }
        }
    }

    private static void aFullLoadChangesNothing() {
        for (int v = 0; v < 12; v++) {
            for (int w = 0; w < 12; w++) {
                refused(State.FULL, Call.of("load", v, w, 0), FULL);
                refused(State.FULL, Call.of("load", v, w, 1), FULL);
            }
        }
    }

    private static void aFullStoreChangesNothing() {
        for (int v = 0; v < 12; v++) {
            for (int w = 0; w < 12; w++) {
                refused(State.FULL, Call.of("store", v, 0, w), FULL);
                refused(State.FULL, Call.of("store", v, 1, w), FULL);
            }
        }
    }

    private static void aFullRegionChangesNothing() {
        for (int thread = 0; thread < 4; thread++) {
            for (int v = 0; v < 12; v++) {
                refused(State.FULL, Call.of("region", thread, v, -1), FULL);
                refused(State.FULL, Call.of("region", thread, v, 8 + thread), FULL);
            }
        }
    }

    private static void aFullAccessChangesNothing() {
        for (int place = 0; place < 16; place++) {
            for (int v = 0; v < 12; v++) {
                refused(State.FULL, Call.of("access", place, v, 0, 1), FULL);
                refused(State.FULL, Call.of("access", place, v, 1, 0), FULL);
            }
        }
    }

    private static void everyQuestion(String name, int arguments, int last) {
        for (State state : State.values()) {
            for (int a = -1; a <= last; a++) {
                for (int b = -1; b <= (arguments == 2 ? last : -1); b++) {
                    Call call = arguments == 2 ? Call.of(name, a, b) : Call.of(name, a);
                    changesNothing(state, call);
                }
            }
        }
    }

    private static void pointsToChangesNothing() {
        everyQuestion("pointsTo", 1, 12);
    }

    private static void holdsChangesNothing() {
        everyQuestion("holds", 2, 8);
    }

    private static void raceChangesNothing() {
        everyQuestion("race", 2, 16);
    }

    private static void racesChangesNothing() {
        for (State state : State.values()) {
            changesNothing(state, Call.of("races"));
        }
    }

    private static void heldChangesNothing() {
        everyQuestion("held", 1, 16);
    }

    private static void dangerChangesNothing() {
        for (State state : State.values()) {
            changesNothing(state, Call.of("danger"));
        }
    }

    // The tests above say something only if the later calls can notice a change.
    private static void whatIsTakenDoesChange() {
        Call[] taken = {
            Call.of("alloc", 6, 5), Call.of("copy", 6, 7), Call.of("load", 6, 7, 0),
            Call.of("store", 6, 1, 7), Call.of("once", 5, 1), Call.of("region", 3, 11, -1),
            Call.of("access", 3, 11, 0, 0)};
        for (Call call : taken) {
            Due.is(call + " is noticed", changeBy(State.BUSY, call).isEmpty(), false);
        }
    }
}
