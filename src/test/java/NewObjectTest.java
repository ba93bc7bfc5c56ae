/** Promise 1: a new object has no statements, regions or accesses, and no site is ONCE. */
public final class NewObjectTest {
    public static void main(String[] args) {
        setsAreEmpty();
        onlyThreadsArePlaces();
        thereAreNoAccesses();
        noSiteIsOnce();
        thereAreNoStatements();
        objectsShareNothing();
        Due.end();
    }

    private static void setsAreEmpty() {
        RaceFinder x = new RaceFinder();
        for (int v = 0; v < 12; v++) {
            Due.is("new: pointsTo(" + v + ")", x.pointsTo(v), 0);
        }
        for (int s = 0; s < 8; s++) {
            Due.is("new: holds(" + s + ", 0)", x.holds(s, 0), 0);
            Due.is("new: holds(" + s + ", 1)", x.holds(s, 1), 0);
        }
        Due.is("new: danger()", x.danger(), 0);
    }

    private static void onlyThreadsArePlaces() {
        RaceFinder x = new RaceFinder();
        for (int place = 0; place < 4; place++) {
            Due.is("new: held(" + place + ")", x.held(place), 0);
        }
        Due.is("new: held(4)", x.held(4), RaceFinder.BAD_NUMBER);
        Due.is("new: access(4, 0, 0, true)", x.access(4, 0, 0, true), RaceFinder.BAD_NUMBER);
        Due.is("new: region(0, 0, 0)", x.region(0, 0, 0), RaceFinder.BAD_NUMBER);
        Due.is("new: region(0, 0, -1)", x.region(0, 0, -1), 0);
    }

    private static void thereAreNoAccesses() {
        RaceFinder x = new RaceFinder();
        Due.is("new: races()", x.races(), 0);
        Due.is("new: race(0, 1)", x.race(0, 1), false);
        Due.is("new: access(3, 0, 0, true)", x.access(3, 0, 0, true), 0);
    }

    private static void noSiteIsOnce() {
        RaceFinder x = new RaceFinder();
        for (int s = 0; s < 8; s++) {
            Due.is("new: once(" + s + ", false)", x.once(s, false), 0);
        }
    }

    private static void thereAreNoStatements() {
        RaceFinder x = new RaceFinder();
        for (int v = 0; v < 12; v++) {
            x.alloc(v, v % 8);
        }
        for (int v = 0; v < 12; v++) {
            Due.is("no copies, loads: pointsTo(" + v + ")", x.pointsTo(v), 1 << (v % 8));
        }
        for (int s = 0; s < 8; s++) {
            Due.is("no stores: holds(" + s + ", 0)", x.holds(s, 0), 0);
            Due.is("no stores: holds(" + s + ", 1)", x.holds(s, 1), 0);
        }
    }

    private static void objectsShareNothing() {
        RaceFinder used = new RaceFinder();
        used.alloc(0, 0);
        used.store(0, 0, 0);
        used.once(0, true);
        used.region(0, 0, -1);
        used.access(4, 0, 0, true);
        RaceFinder x = new RaceFinder();
        Due.is("beside another: pointsTo(0)", x.pointsTo(0), 0);
        Due.is("beside another: holds(0, 0)", x.holds(0, 0), 0);
        Due.is("beside another: once(0, true)", x.once(0, true), 0);
        Due.is("beside another: region(1, 0, -1)", x.region(1, 0, -1), 0);
        Due.is("beside another: access(4, 0, 0, true)", x.access(4, 0, 0, true), 0);
    }
}
