/**
 * Points-to sets of a small program of up to four threads, with the data races
 * and lock-order hazards that follow from them.
 *
 * A set of sites is an int with bit s for site s. A relation between sites is a
 * long with bit 8 * s + t for the pair (s, t), so that the questions about lock
 * order need no room of their own in the object.
 */
public final class RaceFinder {
    public static final int BAD_NUMBER = -1;
    public static final int FULL = -2;

    private static final int VARIABLES = 12;
    private static final int SITES = 8;
    private static final int FIELDS = 2;
    private static final int THREADS = 4;
    private static final int MOST_LOADS = 20;
    private static final int MOST_STORES = 20;
    private static final int MOST_REGIONS = 12;
    private static final int MOST_ACCESSES = 16;
    private static final int NO_REGION = -1;
    private static final int SLOTS = SITES * FIELDS;
    private static final int ALL_SITES = (1 << SITES) - 1;

    // Every pass but the last one adds a site to some set, so one pass more
    // than there is room for sites is always enough.
    private static final int MOST_PASSES = (VARIABLES + SLOTS) * SITES + 1;

    private final int[] variableSites = new int[VARIABLES];
    private final int[] slotSites = new int[SLOTS];

    // Copies have no limit on their number, so they are kept as a set of
    // source variables for each target and not as a list.
    private final int[] copySources = new int[VARIABLES];

    private final int[] loadTarget = new int[MOST_LOADS];
    private final int[] loadBase = new int[MOST_LOADS];
    private final int[] loadField = new int[MOST_LOADS];
    private int loadCount;

    private final int[] storeBase = new int[MOST_STORES];
    private final int[] storeField = new int[MOST_STORES];
    private final int[] storeSource = new int[MOST_STORES];
    private int storeCount;

    private int onceSites;

    private final int[] regionThread = new int[MOST_REGIONS];
    private final int[] regionVariable = new int[MOST_REGIONS];
    private final int[] regionAround = new int[MOST_REGIONS];
    private int regionCount;

    private final int[] accessPlace = new int[MOST_ACCESSES];
    private final int[] accessVariable = new int[MOST_ACCESSES];
    private final int[] accessField = new int[MOST_ACCESSES];
    private final boolean[] accessWrites = new boolean[MOST_ACCESSES];
    private int accessCount;

    public RaceFinder() {
    }

    public int alloc(int v, int site) {
        if (!isVariable(v) || !isSite(site)) {
            return BAD_NUMBER;
        }
        variableSites[v] |= 1 << site;
        settle();
        return countSites(variableSites[v]);
    }

    public int copy(int v, int w) {
        if (!isVariable(v) || !isVariable(w)) {
            return BAD_NUMBER;
        }
        copySources[v] |= 1 << w;
        settle();
        return countSites(variableSites[v]);
    }

    public int load(int v, int w, int f) {
        if (!isVariable(v) || !isVariable(w) || !isField(f)) {
            return BAD_NUMBER;
        }
        if (loadCount >= MOST_LOADS) {
            return FULL;
        }
        loadTarget[loadCount] = v;
        loadBase[loadCount] = w;
        loadField[loadCount] = f;
        loadCount++;
        settle();
        return countSites(variableSites[v]);
    }

    public int store(int v, int f, int w) {
        if (!isVariable(v) || !isField(f) || !isVariable(w)) {
            return BAD_NUMBER;
        }
        if (storeCount >= MOST_STORES) {
            return FULL;
        }
        storeBase[storeCount] = v;
        storeField[storeCount] = f;
        storeSource[storeCount] = w;
        storeCount++;
        settle();
        return 0;
    }

    public int once(int site, boolean on) {
        if (!isSite(site)) {
            return BAD_NUMBER;
        }
        int before = (onceSites >>> site) & 1;
        if (on) {
            onceSites |= 1 << site;
        } else {
            onceSites &= ~(1 << site);
        }
        return before;
    }

    public int region(int thread, int v, int around) {
        if (!isThread(thread) || !isVariable(v) || !canLieIn(thread, around)) {
            return BAD_NUMBER;
        }
        if (regionCount >= MOST_REGIONS) {
            return FULL;
        }
        regionThread[regionCount] = thread;
        regionVariable[regionCount] = v;
        regionAround[regionCount] = around;
        regionCount++;
        return regionCount - 1;
    }

    public int access(int place, int v, int f, boolean write) {
        if (!isPlace(place) || !isVariable(v) || !isField(f)) {
            return BAD_NUMBER;
        }
        if (accessCount >= MOST_ACCESSES) {
            return FULL;
        }
        accessPlace[accessCount] = place;
        accessVariable[accessCount] = v;
        accessField[accessCount] = f;
        accessWrites[accessCount] = write;
        accessCount++;
        return accessCount - 1;
    }

    public int pointsTo(int v) {
        return isVariable(v) ? variableSites[v] : BAD_NUMBER;
    }

    public int holds(int site, int f) {
        if (!isSite(site) || !isField(f)) {
            return BAD_NUMBER;
        }
        return slotSites[site * FIELDS + f];
    }

    public boolean race(int i, int j) {
        if (!isAccess(i) || !isAccess(j)) {
            return false;
        }
        return inDifferentThreads(i, j) && mayClash(i, j) && !shareSureLock(i, j);
    }

    public int races() {
        int count = 0;
        for (int j = 1; j < accessCount; j++) {
            for (int i = 0; i < j; i++) {
                if (race(i, j)) {
                    count++;
                }
            }
        }
        return count;
    }

    public int held(int place) {
        return isPlace(place) ? surelyHeld(place) : BAD_NUMBER;
    }

    public int danger() {
        long allSteps = 0;
        for (int thread = 0; thread < THREADS; thread++) {
            allSteps |= stepsBy(thread);
        }
        long reach = closure(allSteps);
        // Two sites lie on one closed way just if each can be reached from the
        // other. As steps may be used more than once, one closed way can use
        // every step between such sites; so what counts is which threads have
        // a step there.
        long cyclic = reach & transpose(reach);
        int byOneThread = 0;
        int byTwoThreads = 0;
        for (int thread = 0; thread < THREADS; thread++) {
            long steps = stepsBy(thread) & cyclic;
            int sites = sitesAlong(steps, cyclic);
            byTwoThreads |= byOneThread & sites;
            byOneThread |= sites;
        }
        return byTwoThreads;
    }

    private boolean isVariable(int v) {
        return v >= 0 && v < VARIABLES;
    }

    private boolean isSite(int site) {
        return site >= 0 && site < SITES;
    }

    private boolean isField(int f) {
        return f >= 0 && f < FIELDS;
    }

    private boolean isThread(int thread) {
        return thread >= 0 && thread < THREADS;
    }

    private boolean isRegion(int region) {
        return region >= 0 && region < regionCount;
    }

    private boolean isPlace(int place) {
        return place >= 0 && place < THREADS + regionCount;
    }

    private boolean isAccess(int i) {
        return i >= 0 && i < accessCount;
    }

    private boolean canLieIn(int thread, int around) {
        if (around == NO_REGION) {
            return true;
        }
        return isRegion(around) && regionThread[around] == thread;
    }

    private int countSites(int sites) {
        int count = 0;
        for (int s = 0; s < SITES; s++) {
            count += (sites >>> s) & 1;
        }
        return count;
    }

    private boolean hasSite(int sites, int s) {
        return ((sites >>> s) & 1) != 0;
    }

    // Statements are never taken back, so the sets only grow and each new
    // statement can go on from the sets that stand.
    private void settle() {
        int grown = ALL_SITES;
        for (int pass = 0; pass < MOST_PASSES && grown != 0; pass++) {
            grown = spreadCopies();
            grown |= spreadLoads();
            grown |= spreadStores();
        }
    }

    private int spreadCopies() {
        int grown = 0;
        for (int v = 0; v < VARIABLES; v++) {
            for (int w = 0; w < VARIABLES; w++) {
                if (((copySources[v] >>> w) & 1) != 0) {
                    grown |= growVariable(v, variableSites[w]);
                }
            }
        }
        return grown;
    }

    private int spreadLoads() {
        int grown = 0;
        for (int i = 0; i < loadCount; i++) {
            for (int s = 0; s < SITES; s++) {
                if (hasSite(variableSites[loadBase[i]], s)) {
                    int slot = s * FIELDS + loadField[i];
                    grown |= growVariable(loadTarget[i], slotSites[slot]);
                }
            }
        }
        return grown;
    }

    private int spreadStores() {
        int grown = 0;
        for (int i = 0; i < storeCount; i++) {
            for (int s = 0; s < SITES; s++) {
                if (hasSite(variableSites[storeBase[i]], s)) {
                    int slot = s * FIELDS + storeField[i];
                    grown |= growSlot(slot, variableSites[storeSource[i]]);
                }
            }
        }
        return grown;
    }

    private int growVariable(int v, int sites) {
        int fresh = sites & ~variableSites[v];
        variableSites[v] |= fresh;
        return fresh;
    }

    private int growSlot(int slot, int sites) {
        int fresh = sites & ~slotSites[slot];
        slotSites[slot] |= fresh;
        return fresh;
    }

    private int threadOf(int place) {
        return place < THREADS ? place : regionThread[place - THREADS];
    }

    private boolean inDifferentThreads(int i, int j) {
        return threadOf(accessPlace[i]) != threadOf(accessPlace[j]);
    }

    private boolean mayClash(int i, int j) {
        int common = variableSites[accessVariable[i]] & variableSites[accessVariable[j]];
        return accessField[i] == accessField[j]
            && (accessWrites[i] || accessWrites[j])
            && common != 0;
    }

    private boolean shareSureLock(int i, int j) {
        return (surelyHeld(accessPlace[i]) & surelyHeld(accessPlace[j])) != 0;
    }

    private int surelyHeld(int place) {
        int sites = 0;
        // Below 0 for a thread outside all regions, where nothing is held.
        int region = place - THREADS;
        for (int depth = 0; depth < MOST_REGIONS && region >= 0; depth++) {
            sites |= surelyLocked(region);
            region = regionAround[region];
        }
        return sites;
    }

    private int surelyLocked(int region) {
        int sites = variableSites[regionVariable[region]];
        boolean atMostOne = (sites & (sites - 1)) == 0;
        return atMostOne ? sites & onceSites : 0;
    }

    private long stepsBy(int thread) {
        long steps = 0;
        for (int region = 0; region < regionCount; region++) {
            if (regionThread[region] == thread) {
                steps |= stepsInto(region);
            }
        }
        return steps;
    }

    private long stepsInto(int region) {
        long steps = 0;
        int to = variableSites[regionVariable[region]];
        int outer = regionAround[region];
        for (int depth = 0; depth < MOST_REGIONS && outer >= 0; depth++) {
            steps |= stepsBetween(variableSites[regionVariable[outer]], to);
            outer = regionAround[outer];
        }
        return steps;
    }

    private long stepsBetween(int from, int to) {
        long steps = 0;
        for (int s = 0; s < SITES; s++) {
            if (hasSite(from, s)) {
                // A thread that locks the one object of a site again waits for nobody.
                int targets = to & ~(onceSites & (1 << s));
                steps |= (long) targets << (s * SITES);
            }
        }
        return steps;
    }

    private int row(long relation, int s) {
        return (int) (relation >>> (s * SITES)) & ALL_SITES;
    }

    private long closure(long steps) {
        long reach = steps;
        for (int middle = 0; middle < SITES; middle++) {
            long onward = row(reach, middle);
            for (int s = 0; s < SITES; s++) {
                int reached = row(reach, s);
                if (hasSite(reached, middle)) {
                    reach |= onward << (s * SITES);
                }
            }
        }
        return reach;
    }

    private long transpose(long relation) {
        long turned = 0;
        for (int s = 0; s < SITES; s++) {
            for (int t = 0; t < SITES; t++) {
                turned |= ((relation >>> (s * SITES + t)) & 1L) << (t * SITES + s);
            }
        }
        return turned;
    }

    private int sitesAlong(long steps, long cyclic) {
        int sites = 0;
        for (int s = 0; s < SITES; s++) {
            if (row(steps, s) != 0) {
                sites |= row(cyclic, s);
            }
        }
        return sites;
    }
}
