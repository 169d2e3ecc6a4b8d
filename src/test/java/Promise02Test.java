/** Promise 2: add, and the bounds of a task in the terms. */
final class Promise02Test extends Cases {
    public static void main(String[] args) {
        new Promise02Test().runAll();
    }

    void idTooSmall() {
        refuses(0, 1, 9, 9, 1);
        refuses(-1, 1, 9, 9, 1);
        refuses(LOWEST, 1, 9, 9, 1);
    }

    void idAtItsBounds() {
        takes(1, 1, 9, 9, 1);
        takes(99, 1, 9, 9, 1);
    }

    void idTooLarge() {
        refuses(100, 1, 9, 9, 1);
        refuses(HIGHEST, 1, 9, 9, 1);
    }

    void costTooSmall() {
        refuses(1, 0, 9, 9, 1);
        refuses(1, -1, 9, 9, 1);
        refuses(1, LOWEST, 9, 9, 1);
    }

    void costAtItsBounds() {
        takes(1, 1, 9, 9, 1);
        takes(1, 20000, 20000, 20000, 1);
    }

    void costTooLarge() {
        refuses(1, 20001, 20000, 20000, 1);
        refuses(1, 20001, 20001, 20001, 1);
        refuses(1, HIGHEST, 9, 9, 1);
    }

    void costJustShortest() {
        takes(1, 9, 9, 20, 1);
    }

    void costAboveShortest() {
        refuses(1, 10, 9, 20, 1);
        refuses(1, 2, 1, 20, 1);
    }

    void shortestTooSmall() {
        refuses(1, 1, 0, 9, 1);
        refuses(1, 0, 0, 9, 1);
        refuses(1, -1, -1, 9, 1);
        refuses(1, 1, LOWEST, 9, 1);
    }

    void shortestAtItsBounds() {
        takes(1, 1, 1, 9, 1);
        takes(1, 1, 20000, 20000, 1);
    }

    void shortestTooLarge() {
        refuses(1, 1, 20001, 20001, 1);
        refuses(1, 1, 20001, 20000, 1);
        refuses(1, 1, HIGHEST, HIGHEST, 1);
    }

    void shortestJustLongest() {
        takes(1, 1, 9, 9, 1);
    }

    void shortestAboveLongest() {
        refuses(1, 1, 9, 8, 1);
        refuses(1, 1, 20000, 19999, 1);
    }

    void longestTooSmall() {
        refuses(1, 1, 1, 0, 1);
        refuses(1, 0, 0, 0, 1);
        refuses(1, 1, 1, LOWEST, 1);
    }

    void longestAtItsBounds() {
        takes(1, 1, 1, 1, 1);
        takes(1, 1, 1, 20000, 1);
    }

    void longestTooLarge() {
        refuses(1, 1, 9, 20001, 1);
        refuses(1, 1, 9, HIGHEST, 1);
    }

    void stiffnessTooSmall() {
        refuses(1, 1, 9, 9, 0);
        refuses(1, 1, 9, 9, -1);
        refuses(1, 1, 9, 9, LOWEST);
    }

    void stiffnessAtItsBounds() {
        takes(1, 1, 9, 9, 1);
        takes(1, 1, 9, 9, 1000);
    }

    void stiffnessTooLarge() {
        refuses(1, 1, 9, 9, 1001);
        refuses(1, 1, 9, 9, HIGHEST);
    }

    void badArgumentsAreNoRefusal() {
        ElasticKernel kernel = new ElasticKernel();
        kernel.add(1, 1, 1, 1, 1);
        due("too much, and no id", kernel.add(100, 9, 9, 9, 1), NONE);
        due("too much, and no stiffness", kernel.add(2, 9, 9, 9, 1001), NONE);
        due("not REFUSED", kernel.state(REFUSED_AT), 0);
    }

    void idIsThereAnnounced() {
        ElasticKernel kernel = new ElasticKernel();
        kernel.add(5, 1, 2, 4, 1);
        due("the same id", kernel.add(5, 1, 9, 9, 1), NONE);
        due("the same id, too much", kernel.add(5, 9, 9, 9, 1), NONE);
        states("nothing changed", kernel, 0, 1000, 0, 1, 500, 0, 1, 0);
        tasks("the one that is there", kernel, 5, ANNOUNCED, 0, 2, 0, 0, 0, 0, 0);
    }

    void idIsThereInForce() {
        ElasticKernel kernel = new ElasticKernel();
        kernel.add(5, 1, 2, 4, 1);
        kernel.tick(1);
        due("the same id", kernel.add(5, 1, 9, 9, 1), NONE);
        due("the same id, too much", kernel.add(5, 9, 9, 9, 1), NONE);
        states("nothing changed", kernel, 1, 1000, 0, 1, 500, 0, 1, 0);
        tasks("the one that is there", kernel, 5, IN_FORCE, 2, 2, 2, 0, 1, 1, 0);
    }

    void idIsThereLeaving() {
        ElasticKernel kernel = new ElasticKernel();
        kernel.add(5, 1, 2, 4, 1);
        kernel.tick(1);
        kernel.leave(5);
        due("the same id", kernel.add(5, 1, 9, 9, 1), NONE);
        due("the same id, too much", kernel.add(5, 9, 9, 9, 1), NONE);
        kernel.tick(1);
        due("its period ends, it is there yet", kernel.add(5, 1, 9, 9, 1), NONE);
        states("nothing changed", kernel, 2, 1000, 0, 2, 1000, 2, 1, 0);
        kernel.tick(1);
        due("it is gone", kernel.add(5, 1, 9, 9, 1), 0);
    }

    void idIsFreeAgainWithNothingOfTheOldTask() {
        ElasticKernel kernel = new ElasticKernel();
        kernel.add(4, 2, 5, 5, 1);
        kernel.tick(4);
        kernel.leave(4);
        kernel.tick(2);
        due("again", kernel.add(4, 1, 50, 50, 9), 0);
        tasks("a new task", kernel, 4, ANNOUNCED, 0, 50, 0, 0, 0, 0, 0);
        kernel.tick(1);
        tasks("a new task", kernel, 4, IN_FORCE, 50, 50, 56, 0, 1, 7, 0);
    }

    void fullWithTwelveAnnounced() {
        ElasticKernel kernel = twelve();
        due("the 13th", kernel.add(13, 1, 100, 100, 1), NONE);
        due("the 13th, too much as well", kernel.add(13, 100, 100, 100, 1), NONE);
        states("nothing changed", kernel, 0, 1000, 0, 12, 880, 0, 12, 0);
        due("not there", kernel.task(13, PHASE), NONE);
    }

    void fullWithTwelveInForce() {
        ElasticKernel kernel = twelve();
        due("the first tick", kernel.tick(1), 1);
        due("the 13th", kernel.add(13, 1, 100, 100, 1), NONE);
        states("nothing changed", kernel, 1, 1000, 0, 12, 880, 0, 12, 0);
    }

    void fullTillALeavingTaskIsGone() {
        ElasticKernel kernel = twelve();
        kernel.tick(1);
        kernel.leave(4);
        due("LEAVING", kernel.add(13, 1, 100, 100, 1), NONE);
        kernel.tick(99);
        due("its period ends", kernel.add(13, 1, 100, 100, 1), NONE);
        due("eleven and one that leaves", kernel.state(TASKS), 12);
        kernel.tick(1);
        due("gone", kernel.state(TASKS), 11);
        due("a place again", kernel.add(13, 1, 100, 100, 1), 0);
        due("and no more", kernel.add(14, 1, 100, 100, 1), NONE);
    }

    void fullTillAnAnnouncedTaskLeaves() {
        ElasticKernel kernel = twelve();
        kernel.leave(12);
        due("a place at once", kernel.add(13, 1, 100, 100, 1), 0);
        due("and no more", kernel.add(12, 1, 100, 100, 1), NONE);
    }

    void refusedTaskTakesNoPlace() {
        ElasticKernel kernel = twelve();
        kernel.leave(12);
        for (int i = 0; i < 20; i++) {
            due("too much", kernel.add(50 + i, 1, 1, 1, 1), NONE);
        }
        due("eleven", kernel.state(TASKS), 11);
        due("the twelfth", kernel.add(12, 1, 100, 100, 1), 0);
    }

    void leastLoadsJustAllowed() {
        ElasticKernel kernel = new ElasticKernel();
        for (int id = 1; id <= 3; id++) {
            due("a third", kernel.add(id, 1, 2, 3, 1), 0);
        }
        due("not REFUSED", kernel.state(REFUSED_AT), 0);
        // 1/2 + 1/9 + 1/9 + 1/9 + 1/6 is 1, and more than 1 when added up in doubles.
        kernel = new ElasticKernel();
        int[] longest = {2, 9, 9, 9, 6};
        for (int i = 0; i < longest.length; i++) {
            due("1 / " + longest[i], kernel.add(i + 1, 1, 2, longest[i], 1), 0);
        }
        kernel = new ElasticKernel();
        kernel.load(1);
        due("1 / 1000", kernel.add(1, 1, 1000, 1000, 1), 0);
        kernel = new ElasticKernel();
        due("alone", kernel.add(1, 20000, 20000, 20000, 1), 0);
    }

    void leastLoadsJustTooMuch() {
        ElasticKernel kernel = new ElasticKernel();
        for (int id = 1; id <= 3; id++) {
            kernel.add(id, 1, 2, 3, 1);
        }
        due("a bit more", kernel.add(4, 1, 1, 20000, 1), NONE);
        due("REFUSED", kernel.state(REFUSED_AT), 4);
        // The four come to 1 and 1 / (19999 * 19998 * 19975 * 19991): 1 when added up in doubles.
        kernel = new ElasticKernel();
        kernel.add(1, 3229, 3229, 19999, 1);
        kernel.add(2, 8819, 8819, 19998, 1);
        kernel.add(3, 4218, 4218, 19975, 1);
        due("the least bit more", kernel.add(4, 3726, 3726, 19991, 1), NONE);
        due("REFUSED", kernel.state(REFUSED_AT), 4);
        due("a bit less", kernel.add(4, 3725, 3725, 19991, 1), 0);
        kernel = new ElasticKernel();
        kernel.load(1);
        due("1 / 999", kernel.add(1, 1, 999, 999, 1), NONE);
        kernel.load(999);
        due("1", kernel.add(2, 7, 7, 7, 1), NONE);
        due("REFUSED", kernel.state(REFUSED_AT), 2);
    }

    void leastLoadsCountNotTheFullOnes() {
        ElasticKernel kernel = new ElasticKernel();
        for (int id = 1; id <= 12; id++) {
            due("full 1, least 1 / 12", kernel.add(id, 1, 1, 12, 1), 0);
        }
        due("twelve", kernel.state(TASKS), 12);
    }

    void leastLoadsOfLeavingTasksCount() {
        ElasticKernel kernel = new ElasticKernel();
        kernel.add(1, 1, 2, 2, 1);
        kernel.tick(1);
        kernel.leave(1);
        due("2 / 3 more", kernel.add(2, 2, 3, 3, 1), NONE);
        due("REFUSED", kernel.state(REFUSED_AT), 2);
        due("1 / 2 more", kernel.add(3, 1, 2, 2, 1), 1);
        due("there", kernel.state(TASKS), 2);
    }

    void leastLoadsOfGoneTasksDoNotCount() {
        ElasticKernel kernel = new ElasticKernel();
        kernel.add(1, 1, 2, 2, 1);
        kernel.tick(1);
        kernel.leave(1);
        kernel.tick(1);
        due("its period ends, it is there yet", kernel.add(2, 2, 3, 3, 1), NONE);
        kernel.tick(1);
        due("gone", kernel.add(2, 2, 3, 3, 1), 0);
        kernel = new ElasticKernel();
        kernel.add(1, 1, 2, 2, 1);
        kernel.leave(1);
        due("gone at once", kernel.add(2, 1, 1, 1, 1), 0);
    }

    void refusedChangesNothingElse() {
        ElasticKernel kernel = new ElasticKernel();
        kernel.add(5, 1, 2, 4, 1);
        kernel.add(7, 1, 2, 2, 1);
        kernel.tick(3);
        due("REFUSED", kernel.add(6, 1, 3, 3, 1), NONE);
        states("but for state(7)", kernel, 3, 1000, 0, 2, 0, 0, 2, 7);
        tasks("5", kernel, 5, IN_FORCE, 2, 2, 4, 0, 2, 3, 0);
        tasks("7", kernel, 7, IN_FORCE, 2, 2, 4, 1, 1, 2, 0);
        rate("5", kernel, 5, 1, 2);
        total("both", kernel, 1, 1);
        due("not there", kernel.task(6, PHASE), NONE);
        due("not there", kernel.rate(6, ABOVE, 0), NONE);
        ticks("as before", kernel, 7, 5, 7);
    }

    void waitOfNone() {
        ElasticKernel kernel = new ElasticKernel();
        kernel.add(1, 1, 10, 20, 1);
        kernel.tick(1);
        due("there is room", kernel.add(2, 9, 10, 10, 1), 0);
        due("it comes at once", kernel.tick(1), 2);
    }

    void waitForAPeriodThatGrows() {
        ElasticKernel kernel = new ElasticKernel();
        kernel.add(1, 2, 5, 9, 1);
        kernel.tick(2);
        due("till 5", kernel.add(2, 4, 5, 20, 1), 3);
        due("as long", kernel.add(3, 1, 20, 20, 1), 3);
        kernel.tick(1);
        due("one tick less", kernel.add(4, 1, 20, 20, 1), 2);
    }

    void waitForAPeriodThatEndsNow() {
        ElasticKernel kernel = new ElasticKernel();
        kernel.add(1, 2, 5, 9, 1);
        kernel.tick(5);
        due("the end is the clock", kernel.add(2, 4, 5, 20, 1), 0);
        due("the period grows", kernel.task(1, SOLVED), 7);
        kernel.tick(1);
        due("it comes", kernel.task(2, PHASE), IN_FORCE);
        due("the period has grown", kernel.task(1, PERIOD), 7);
    }

    void waitForATaskThatLeaves() {
        ElasticKernel kernel = new ElasticKernel();
        kernel.add(1, 1, 10, 10, 1);
        kernel.tick(1);
        due("no wait where there is room", kernel.add(2, 1, 20, 20, 1), 0);
        kernel.leave(1);
        due("till 10", kernel.add(3, 1, 5, 5, 1), 9);
        due("till 10", kernel.tick(9), 0);
        due("waiting yet", kernel.task(3, PHASE), ANNOUNCED);
        due("it comes", kernel.tick(1), 3);
        due("IN FORCE", kernel.task(3, PHASE), IN_FORCE);
    }

    void waitOfTheLongest() {
        ElasticKernel kernel = new ElasticKernel();
        kernel.add(1, 1, 20000, 20000, 1);
        kernel.tick(1);
        kernel.leave(1);
        due("till 20000", kernel.add(2, 1, 5, 5, 1), 19999);
    }

    void waitMayBecomeLonger() {
        ElasticKernel kernel = new ElasticKernel();
        kernel.add(1, 1, 10, 10, 1);
        kernel.tick(1);
        due("no wait", kernel.add(2, 1, 5, 5, 1), 0);
        kernel.leave(1);
        due("now till 10", kernel.state(INSTANT), 10);
        kernel.tick(9);
        due("waiting yet", kernel.task(2, PHASE), ANNOUNCED);
        due("it comes", kernel.tick(1), 2);
    }

    private void refuses(int id, int cost, int shortest, int longest, int stiffness) {
        ElasticKernel kernel = new ElasticKernel();
        String call = call(id, cost, shortest, longest, stiffness);
        due(call, kernel.add(id, cost, shortest, longest, stiffness), NONE);
        states(call, kernel, 0, 1000, 0, 0, 1000, 0, 0, 0);
        due(call + ", not there", kernel.task(id, PHASE), NONE);
    }

    private void takes(int id, int cost, int shortest, int longest, int stiffness) {
        ElasticKernel kernel = new ElasticKernel();
        String call = call(id, cost, shortest, longest, stiffness);
        due(call, kernel.add(id, cost, shortest, longest, stiffness), 0);
        tasks(call, kernel, id, ANNOUNCED, 0, shortest, 0, 0, 0, 0, 0);
        due(call + ", there", kernel.state(TASKS), 1);
        due(call + ", it comes", kernel.tick(1), id);
        due(call + ", its end", kernel.task(id, END), shortest);
        due(call + ", its job", kernel.task(id, NEEDS), cost - 1);
    }

    private static String call(int id, int cost, int shortest, int longest, int stiffness) {
        return "add(" + id + ", " + cost + ", " + shortest + ", " + longest + ", " + stiffness + ")";
    }

    private ElasticKernel twelve() {
        ElasticKernel kernel = new ElasticKernel();
        for (int id = 12; id >= 1; id--) {
            due("task " + id, kernel.add(id, 1, 100, 100, 1), 0);
        }
        return kernel;
    }
}
