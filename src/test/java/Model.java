import java.util.ArrayDeque;
import java.util.ArrayList;
import java.util.BitSet;
import java.util.Deque;
import java.util.HashSet;
import java.util.List;
import java.util.Set;

/**
 * The document said a second time, in another way: statements are only listed, and every
 * answer is worked out from the list anew. Danger is found by walking ways of steps
 * together with the set of threads that took them.
 */
final class Model {
    private static final int BAD = -1;
    private static final int FULL = -2;

    private record Statement(char kind, int v, int w, int f) { }

    private record Region(int thread, int variable, int around) { }

    private record Access(int place, int variable, int field, boolean write) { }

    private record Step(int from, int to, int thread) { }

    private final List<Statement> statements = new ArrayList<>();
    private final List<Region> regions = new ArrayList<>();
    private final List<Access> accesses = new ArrayList<>();
    private final Set<Integer> onceSites = new HashSet<>();
    private BitSet[] p;
    private BitSet[][] h;

    Model() {
        solve();
    }

    private static boolean in(int n, int count) {
        return 0 <= n && n < count;
    }

    private long given(char kind) {
        return statements.stream().filter(s -> s.kind() == kind).count();
    }

    private int give(char kind, int v, int w, int f) {
        statements.add(new Statement(kind, v, w, f));
        solve();
        return p[v].cardinality();
    }

    private void solve() {
        p = new BitSet[12];
        h = new BitSet[8][2];
        for (int v = 0; v < 12; v++) {
            p[v] = new BitSet();
        }
        for (int s = 0; s < 8; s++) {
            h[s][0] = new BitSet();
            h[s][1] = new BitSet();
        }
        int before = -1;
        while (before != size()) {
            before = size();
            statements.forEach(this::apply);
        }
    }

    private int size() {
        int size = 0;
        for (BitSet set : p) {
            size += set.cardinality();
        }
        for (BitSet[] fields : h) {
            size += fields[0].cardinality() + fields[1].cardinality();
        }
        return size;
    }

    private void apply(Statement st) {
        if (st.kind() == 'a') {
            p[st.v()].set(st.w());
        }
        if (st.kind() == 'c') {
            p[st.v()].or(p[st.w()]);
        }
        if (st.kind() == 'l') {
            for (int s : p[st.w()].stream().toArray()) {
                p[st.v()].or(h[s][st.f()]);
            }
        }
        if (st.kind() == 's') {
            for (int s : p[st.v()].stream().toArray()) {
                h[s][st.f()].or(p[st.w()]);
            }
        }
    }

    private static int mask(BitSet set) {
        return set.isEmpty() ? 0 : (int) set.toLongArray()[0];
    }

    int alloc(int v, int site) {
        return in(v, 12) && in(site, 8) ? give('a', v, site, 0) : BAD;
    }

    int copy(int v, int w) {
        return in(v, 12) && in(w, 12) ? give('c', v, w, 0) : BAD;
    }

    int load(int v, int w, int f) {
        if (!in(v, 12) || !in(w, 12) || !in(f, 2)) {
            return BAD;
        }
        return given('l') == 20 ? FULL : give('l', v, w, f);
    }

    int store(int v, int f, int w) {
        if (!in(v, 12) || !in(w, 12) || !in(f, 2)) {
            return BAD;
        }
        if (given('s') == 20) {
            return FULL;
        }
        give('s', v, w, f);
        return 0;
    }

    int once(int site, boolean on) {
        if (!in(site, 8)) {
            return BAD;
        }
        boolean before = onceSites.contains(site);
        if (on) {
            onceSites.add(site);
        } else {
            onceSites.remove(site);
        }
        return before ? 1 : 0;
    }

    int region(int thread, int v, int around) {
        if (!in(thread, 4) || !in(v, 12)) {
            return BAD;
        }
        if (around != -1 && !(in(around, regions.size()) && regions.get(around).thread() == thread)) {
            return BAD;
        }
        if (regions.size() == 12) {
            return FULL;
        }
        regions.add(new Region(thread, v, around));
        return regions.size() - 1;
    }

    int access(int place, int v, int f, boolean write) {
        if (!in(place, 4 + regions.size()) || !in(v, 12) || !in(f, 2)) {
            return BAD;
        }
        if (accesses.size() == 16) {
            return FULL;
        }
        accesses.add(new Access(place, v, f, write));
        return accesses.size() - 1;
    }

    int pointsTo(int v) {
        return in(v, 12) ? mask(p[v]) : BAD;
    }

    int holds(int site, int f) {
        return in(site, 8) && in(f, 2) ? mask(h[site][f]) : BAD;
    }

    private int threadOf(int place) {
        return place < 4 ? place : regions.get(place - 4).thread();
    }

    boolean race(int i, int j) {
        if (!in(i, accesses.size()) || !in(j, accesses.size())) {
            return false;
        }
        Access a = accesses.get(i);
        Access b = accesses.get(j);
        if (threadOf(a.place()) == threadOf(b.place()) || a.field() != b.field()) {
            return false;
        }
        if (!a.write() && !b.write()) {
            return false;
        }
        return p[a.variable()].intersects(p[b.variable()]) && (held(a.place()) & held(b.place())) == 0;
    }

    int races() {
        int count = 0;
        for (int i = 0; i < accesses.size(); i++) {
            for (int j = i + 1; j < accesses.size(); j++) {
                count += race(i, j) ? 1 : 0;
            }
        }
        return count;
    }

    int held(int place) {
        if (!in(place, 4 + regions.size())) {
            return BAD;
        }
        int sites = 0;
        for (int s : onceSites) {
            for (int r = place < 4 ? -1 : place - 4; r != -1; r = regions.get(r).around()) {
                BitSet locked = p[regions.get(r).variable()];
                if (locked.cardinality() == 1 && locked.get(s)) {
                    sites |= 1 << s;
                }
            }
        }
        return sites;
    }

    private List<Step> steps() {
        List<Step> steps = new ArrayList<>();
        for (Region inner : regions) {
            for (int r = inner.around(); r != -1; r = regions.get(r).around()) {
                for (int s : p[regions.get(r).variable()].stream().toArray()) {
                    for (int t : p[inner.variable()].stream().toArray()) {
                        if (s != t || !onceSites.contains(s)) {
                            steps.add(new Step(s, t, inner.thread()));
                        }
                    }
                }
            }
        }
        return steps;
    }

    int danger() {
        List<Step> steps = steps();
        int sites = 0;
        for (int s = 0; s < 8; s++) {
            if (comesBackWithTwoThreads(s, steps)) {
                sites |= 1 << s;
            }
        }
        return sites;
    }

    private static boolean comesBackWithTwoThreads(int start, List<Step> steps) {
        Deque<int[]> open = new ArrayDeque<>();
        boolean[][] seen = new boolean[8][16];
        open.add(new int[] {start, 0});
        while (!open.isEmpty()) {
            int[] at = open.remove();
            for (Step step : steps) {
                int threads = at[1] | 1 << step.thread();
                if (step.from() == at[0] && !seen[step.to()][threads]) {
                    seen[step.to()][threads] = true;
                    open.add(new int[] {step.to(), threads});
                }
            }
        }
        for (int threads = 0; threads < 16; threads++) {
            if (seen[start][threads] && Integer.bitCount(threads) >= 2) {
                return true;
            }
        }
        return false;
    }
}
