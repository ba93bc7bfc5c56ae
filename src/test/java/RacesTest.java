/** Promises 11 and 12: race and races. */
public final class RacesTest {
    public static void main(String[] args) {
        plainRace();
        sameThreadNeverRaces();
        fieldsMustBeTheSame();
        oneMustWrite();
        aSiteMustBeCommon();
        aCommonSureLockKeepsApart();
        differentSureLocksDoNot();
        unsureLocksDoNot();
        locksAroundCount();
        racesCountsPairs();
        racesOfAllAccesses();
        missingAccessesDoNotRace();
        questionsChangeNothing();
        Due.end();
    }

    private static void bothWays(RaceFinder x, String what, boolean want) {
        Due.is(what + ": race(0, 1)", x.race(0, 1), want);
        Due.is(what + ": race(1, 0)", x.race(1, 0), want);
        Due.is(what + ": races()", x.races(), want ? 1 : 0);
    }

    private static void plainRace() {
        for (int a = 0; a < 4; a++) {
            for (int b = 0; b < 4; b++) {
                RaceFinder x = new RaceFinder();
                x.alloc(0, 7);
                x.alloc(11, 7);
                x.access(a, 0, 1, true);
                x.access(b, 11, 1, true);
                bothWays(x, "threads " + a + " and " + b, a != b);
            }
        }
    }

    private static void sameThreadNeverRaces() {
        RaceFinder x = new RaceFinder();
        x.alloc(0, 0);
        x.region(2, 0, -1);
        x.access(4, 0, 0, true);
        x.access(2, 0, 0, true);
        bothWays(x, "a thread inside and outside its region", false);
        Due.is("race(0, 0)", x.race(0, 0), false);
        x = new RaceFinder();
        x.alloc(0, 0);
        x.region(3, 0, -1);
        x.region(1, 0, -1);
        x.access(4, 0, 0, true);
        x.access(5, 0, 0, true);
        bothWays(x, "regions of two threads", true);
    }

    private static void fieldsMustBeTheSame() {
        RaceFinder x = new RaceFinder();
        x.alloc(0, 0);
        x.access(0, 0, 0, true);
        x.access(1, 0, 1, true);
        bothWays(x, "two fields", false);
    }

    private static void oneMustWrite() {
        for (int writes = 0; writes < 4; writes++) {
            RaceFinder x = new RaceFinder();
            x.alloc(0, 0);
            x.access(0, 0, 0, (writes & 1) != 0);
            x.access(1, 0, 0, (writes & 2) != 0);
            bothWays(x, "writes " + writes, writes != 0);
        }
    }

    private static void aSiteMustBeCommon() {
        RaceFinder x = new RaceFinder();
        x.access(0, 0, 0, true);
        x.access(1, 1, 0, true);
        bothWays(x, "no sites", false);
        x.alloc(0, 0);
        x.alloc(0, 1);
        x.alloc(1, 2);
        bothWays(x, "no common site", false);
        x.alloc(1, 1);
        bothWays(x, "a common site among others", true);
    }

    private static RaceFinder underLocks(int lockA, int lockB) {
        RaceFinder x = new RaceFinder();
        x.alloc(0, 0);
        x.alloc(1, 1);
        x.alloc(2, 2);
        x.region(0, lockA, -1);
        x.region(1, lockB, -1);
        x.access(4, 0, 0, true);
        x.access(5, 0, 0, true);
        return x;
    }

    private static void aCommonSureLockKeepsApart() {
        RaceFinder x = underLocks(1, 1);
        bothWays(x, "one lock, not ONCE", true);
        x.once(1, true);
        bothWays(x, "one lock, ONCE", false);
        x.once(1, false);
        bothWays(x, "one lock, ONCE no more", true);
        x.once(1, true);
        x.access(1, 0, 0, true);
        Due.is("outside the region: race(0, 2)", x.race(0, 2), true);
        Due.is("same thread: race(1, 2)", x.race(1, 2), false);
        Due.is("outside the region: races()", x.races(), 1);
    }

    private static void differentSureLocksDoNot() {
        RaceFinder x = underLocks(1, 2);
        x.once(1, true);
        x.once(2, true);
        bothWays(x, "two locks", true);
    }

    private static void unsureLocksDoNot() {
        RaceFinder x = underLocks(1, 1);
        x.once(1, true);
        x.once(2, true);
        x.alloc(1, 2);
        bothWays(x, "a lock that may be one of two", true);
        x = underLocks(9, 9);
        bothWays(x, "a lock of nothing", true);
    }

    private static void locksAroundCount() {
        RaceFinder x = new RaceFinder();
        x.alloc(0, 0);
        x.alloc(1, 1);
        x.once(1, true);
        x.region(0, 1, -1);
        x.region(0, 2, 0);
        x.region(0, 2, 1);
        x.region(3, 2, -1);
        x.region(3, 1, 3);
        x.access(6, 0, 0, true);
        x.access(8, 0, 0, false);
        bothWays(x, "a common lock around", false);
        x.access(7, 0, 0, false);
        Due.is("the lock lies inside: race(0, 2)", x.race(0, 2), true);
    }

    private static void racesCountsPairs() {
        RaceFinder x = new RaceFinder();
        x.alloc(0, 0);
        for (int thread = 0; thread < 4; thread++) {
            x.access(thread, 0, 0, true);
            Due.is("races of " + (thread + 1), x.races(), thread * (thread + 1) / 2);
        }
        x.access(0, 0, 0, false);
        Due.is("races with a reader of thread 0", x.races(), 9);
        x.access(0, 0, 1, true);
        Due.is("races with another field", x.races(), 9);
    }

    private static void racesOfAllAccesses() {
        RaceFinder x = new RaceFinder();
        x.alloc(0, 0);
        for (int i = 0; i < 16; i++) {
            x.access(i % 4, 0, 0, true);
        }
        Due.is("races() of sixteen", x.races(), 6 * 16);
        Due.is("race(14, 15)", x.race(14, 15), true);
        Due.is("race(11, 15)", x.race(11, 15), false);
        Due.is("race(0, 15)", x.race(0, 15), true);
        Due.is("race(15, 16)", x.race(15, 16), false);
    }

    private static void missingAccessesDoNotRace() {
        RaceFinder x = new RaceFinder();
        x.alloc(0, 0);
        x.access(0, 0, 0, true);
        x.access(1, 0, 0, true);
        int[] missing = {Integer.MIN_VALUE, -1, 2, 15, 16, 17, Integer.MAX_VALUE};
        for (int n : missing) {
            Due.is("race(0, " + n + ")", x.race(0, n), false);
            Due.is("race(" + n + ", 1)", x.race(n, 1), false);
            Due.is("race(" + n + ", " + n + ")", x.race(n, n), false);
        }
    }

    private static void questionsChangeNothing() {
        RaceFinder x = underLocks(1, 2);
        for (int n = 0; n < 3; n++) {
            bothWays(x, "asked again", true);
            Due.is("danger() asked again", x.danger(), 0);
            Due.is("held(4) asked again", x.held(4), 0);
            Due.is("pointsTo(0) asked again", x.pointsTo(0), 1);
            Due.is("holds(0, 0) asked again", x.holds(0, 0), 0);
        }
        Due.is("access number after questions", x.access(0, 0, 0, true), 2);
        Due.is("region number after questions", x.region(0, 0, -1), 2);
    }
}
