/** Promise 14: danger. Variable v refers to site v, unless a test says more. */
public final class DangerTest {
    public static void main(String[] args) {
        twoThreadsInOppositeOrder();
        oneThreadInBothOrders();
        sameOrderIsSafe();
        sameOrderOfAnyThreeSitesIsSafe();
        ringOfFourThreads();
        stepsAtAnyDistance();
        regionsBesideEachOtherGiveNoStep();
        backByOneThreadAlone();
        theSecondThreadMayStandAside();
        sitesBeforeAndBehindACircle();
        circlesWithoutCommonSites();
        theSameThreadsInTwoCircles();
        circlesThatShareASite();
        aSiteWithItself();
        onceTakesOnlyTheStepToItself();
        everySiteOfASetSteps();
        wholeNest();
        Due.end();
    }

    private static RaceFinder withSites() {
        RaceFinder x = new RaceFinder();
        for (int s = 0; s < 8; s++) {
            x.alloc(s, s);
        }
        return x;
    }

    private static void step(RaceFinder x, int thread, int from, int to) {
        int outer = x.region(thread, from, -1);
        int inner = x.region(thread, to, outer);
        Due.is("the inner region stands", inner, outer + 1);
    }

    private static void twoThreadsInOppositeOrder() {
        for (int a = 0; a < 4; a++) {
            for (int b = 0; b < 4; b++) {
                RaceFinder x = withSites();
                step(x, a, 0, 7);
                Due.is("one step", x.danger(), 0);
                step(x, b, 7, 0);
                Due.is("0-7 by " + a + ", 7-0 by " + b, x.danger(), a == b ? 0 : 129);
            }
        }
    }

    private static void oneThreadInBothOrders() {
        RaceFinder x = withSites();
        step(x, 1, 2, 3);
        step(x, 1, 3, 2);
        Due.is("one thread in both orders", x.danger(), 0);
        step(x, 0, 4, 5);
        Due.is("another thread elsewhere", x.danger(), 0);
    }

    private static void sameOrderIsSafe() {
        RaceFinder x = withSites();
        step(x, 0, 2, 3);
        step(x, 1, 2, 3);
        step(x, 2, 2, 3);
        Due.is("the same order in three threads", x.danger(), 0);
    }

    private static void sameOrderOfAnyThreeSitesIsSafe() {
        for (int order = 0; order < 8 * 8 * 8; order++) {
            int first = order / 64;
            int second = order / 8 % 8;
            int third = order % 8;
            if (first != second && second != third && third != first) {
                RaceFinder x = withSites();
                for (int thread = 0; thread < 4; thread++) {
                    int outer = x.region(thread, first, -1);
                    int middle = x.region(thread, second, outer);
                    x.region(thread, third, middle);
                }
                Due.is(first + "-" + second + "-" + third + " in each thread", x.danger(), 0);
            }
        }
    }

    private static void ringOfFourThreads() {
        RaceFinder x = withSites();
        step(x, 0, 1, 3);
        step(x, 1, 3, 6);
        step(x, 2, 6, 0);
        Due.is("a ring that is open", x.danger(), 0);
        step(x, 3, 0, 1);
        Due.is("a ring of four", x.danger(), 1 | 1 << 1 | 1 << 3 | 1 << 6);
    }

    private static void stepsAtAnyDistance() {
        RaceFinder x = withSites();
        x.region(0, 1, -1);
        x.region(0, 11, 0);
        x.region(0, 10, 1);
        x.region(0, 2, 2);
        step(x, 3, 2, 1);
        Due.is("regions of nothing between", x.danger(), 6);
    }

    private static void regionsBesideEachOtherGiveNoStep() {
        RaceFinder x = withSites();
        x.region(0, 0, -1);
        x.region(0, 1, 0);
        x.region(0, 2, 0);
        step(x, 1, 2, 1);
        step(x, 2, 1, 2);
        Due.is("1 and 2 by threads 1 and 2", x.danger(), 6);
        x = withSites();
        x.region(0, 0, -1);
        x.region(0, 1, 0);
        x.region(0, 2, 0);
        step(x, 1, 2, 1);
        Due.is("1 beside 2", x.danger(), 0);
    }

    // From 0 to 1 by two threads, and back by one of them: a way that goes
    // round twice has both.
    private static void backByOneThreadAlone() {
        RaceFinder x = withSites();
        step(x, 0, 0, 1);
        step(x, 0, 1, 0);
        Due.is("a circle of one thread", x.danger(), 0);
        step(x, 2, 0, 1);
        Due.is("a second thread on the circle", x.danger(), 3);
    }

    private static void theSecondThreadMayStandAside() {
        RaceFinder x = withSites();
        step(x, 0, 0, 1);
        step(x, 0, 1, 2);
        step(x, 0, 2, 0);
        Due.is("a circle of three by one thread", x.danger(), 0);
        step(x, 1, 2, 2);
        Due.is("another thread's step from 2 to 2", x.danger(), 7);
        x.once(2, true);
        Due.is("no such step if 2 is ONCE", x.danger(), 0);
    }

    private static void sitesBeforeAndBehindACircle() {
        RaceFinder x = withSites();
        step(x, 0, 5, 0);
        step(x, 0, 0, 1);
        step(x, 1, 1, 0);
        step(x, 1, 1, 6);
        Due.is("5 leads in, 6 leads out", x.danger(), 3);
        x = withSites();
        step(x, 0, 0, 1);
        step(x, 0, 1, 0);
        step(x, 1, 1, 6);
        step(x, 2, 5, 0);
        Due.is("other threads only lead in and out", x.danger(), 0);
    }

    private static void circlesWithoutCommonSites() {
        RaceFinder x = withSites();
        step(x, 0, 0, 1);
        step(x, 0, 1, 0);
        step(x, 1, 2, 3);
        step(x, 1, 3, 2);
        Due.is("each thread has its own circle", x.danger(), 0);
        step(x, 2, 1, 2);
        Due.is("a way from one to the other", x.danger(), 0);
        step(x, 2, 3, 0);
        Due.is("and a way back", x.danger(), 15);
    }

    private static void theSameThreadsInTwoCircles() {
        RaceFinder x = withSites();
        step(x, 0, 0, 1);
        step(x, 1, 1, 0);
        Due.is("two threads in one circle", x.danger(), 3);
        step(x, 0, 6, 7);
        step(x, 1, 7, 6);
        Due.is("and in another one", x.danger(), 3 | 192);
    }

    private static void circlesThatShareASite() {
        RaceFinder x = withSites();
        step(x, 0, 0, 1);
        step(x, 0, 1, 0);
        step(x, 1, 1, 2);
        step(x, 1, 2, 1);
        Due.is("two circles through site 1", x.danger(), 7);
    }

    private static void aSiteWithItself() {
        RaceFinder x = withSites();
        step(x, 0, 4, 4);
        Due.is("4-4 by one thread", x.danger(), 0);
        step(x, 0, 4, 4);
        Due.is("4-4 by one thread, twice", x.danger(), 0);
        step(x, 1, 4, 4);
        Due.is("4-4 by two threads", x.danger(), 16);
        x.once(4, true);
        Due.is("4-4 by two threads, ONCE", x.danger(), 0);
        x.once(4, false);
        Due.is("4-4 by two threads, ONCE no more", x.danger(), 16);
        x.once(3, true);
        Due.is("4-4 by two threads, 3 is ONCE", x.danger(), 16);
    }

    private static void onceTakesOnlyTheStepToItself() {
        RaceFinder x = withSites();
        step(x, 0, 0, 1);
        step(x, 1, 1, 0);
        x.once(0, true);
        x.once(1, true);
        Due.is("0-1 and 1-0, both ONCE", x.danger(), 3);
    }

    private static void everySiteOfASetSteps() {
        RaceFinder x = withSites();
        x.alloc(10, 2);
        x.alloc(10, 3);
        x.alloc(11, 4);
        x.alloc(11, 5);
        step(x, 0, 10, 11);
        step(x, 1, 5, 2);
        Due.is("{2,3} before {4,5}, 5 before 2", x.danger(), 1 << 5 | 1 << 2);
        x.alloc(5, 3);
        Due.is("3 before 2 as well, but nothing before 3", x.danger(), 1 << 5 | 1 << 2);
        x.alloc(2, 3);
        Due.is("5 before 3 as well", x.danger(), 1 << 5 | 1 << 3 | 1 << 2);
        x = withSites();
        x.alloc(10, 6);
        x.alloc(10, 7);
        step(x, 2, 10, 10);
        step(x, 3, 10, 10);
        x.once(6, true);
        x.once(7, true);
        Due.is("{6,7} in {6,7}, all ONCE", x.danger(), 192);
    }

    private static void wholeNest() {
        RaceFinder x = withSites();
        int around = -1;
        for (int s = 0; s < 8; s++) {
            around = x.region(3, s, around);
        }
        Due.is("a nest of eight", x.danger(), 0);
        step(x, 2, 7, 5);
        Due.is("7-5 by another thread", x.danger(), 1 << 7 | 1 << 6 | 1 << 5);
        step(x, 1, 7, 0);
        Due.is("7-0 by another thread", x.danger(), 255);
    }
}
