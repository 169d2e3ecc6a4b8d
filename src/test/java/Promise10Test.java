/** Promise 10: state. */
final class Promise10Test extends Cases {
    public static void main(String[] args) {
        new Promise10Test().runAll();
    }

    void whatTooSmall() {
        due("-1", new ElasticKernel().state(-1), NONE);
        due("the lowest", new ElasticKernel().state(LOWEST), NONE);
    }

    void whatTooLarge() {
        due("8", new ElasticKernel().state(8), NONE);
        due("the highest", new ElasticKernel().state(HIGHEST), NONE);
    }

    void allAlongARun() {
        ElasticKernel kernel = new ElasticKernel();
        kernel.add(1, 1, 3, 6, 1);
        states("a third", kernel, 0, 1000, 0, 1, 666, 0, 1, 0);
        kernel.tick(2);
        kernel.load(900);
        states("less", kernel, 2, 900, 0, 2, 566, 2, 1, 0);
        kernel.load(300);
        states("pressed", kernel, 2, 300, 0, 3, 0, 3, 1, 0);
        kernel.load(100);
        states("REFUSED", kernel, 2, 300, 0, 3, 0, 3, 1, 1);
        kernel.leave(1);
        states("the loads without it", kernel, 2, 300, 0, 4, 300, 3, 1, 1);
        kernel.tick(5);
        states("none is there", kernel, 7, 300, 0, 4, 300, 3, 0, 1);
    }

    void unusedIsAllWhenEmpty() {
        ElasticKernel kernel = new ElasticKernel();
        due("1000", kernel.state(UNUSED), 1000);
        kernel.load(1);
        due("1", kernel.state(UNUSED), 1);
    }

    void unusedThatIsWhole() {
        unused(1, 2, 500);
        unused(1, 1000, 999);
        unused(999, 1000, 1);
    }

    void unusedIsNone() {
        unused(1, 1, 0);
        unused(20000, 20000, 0);
        ElasticKernel kernel = new ElasticKernel();
        kernel.load(1);
        kernel.add(1, 1, 1000, 1000, 1);
        due("of one thousandth", kernel.state(UNUSED), 0);
        kernel = new ElasticKernel();
        kernel.add(1, 1, 1, 7, 3);
        kernel.add(2, 1, 1, 7, 11);
        due("pressed", kernel.state(UNUSED), 0);
        kernel.load(777);
        due("pressed", kernel.state(UNUSED), 0);
    }

    void unusedIsRoundedDownwards() {
        unused(1, 3, 666);
        unused(2, 3, 333);
        unused(1, 20000, 999);
        unused(1, 999, 998);
        unused(1, 1001, 999);
        unused(19999, 20000, 0);
        ElasticKernel kernel = new ElasticKernel();
        kernel.load(1);
        kernel.add(1, 1, 20000, 20000, 1);
        due("of one thousandth", kernel.state(UNUSED), 0);
    }

    void unusedLeavesOutLeavingTasks() {
        ElasticKernel kernel = new ElasticKernel();
        kernel.add(1, 1, 4, 4, 1);
        kernel.add(2, 1, 2, 2, 1);
        due("both", kernel.state(UNUSED), 250);
        kernel.tick(1);
        kernel.leave(2);
        due("one", kernel.state(UNUSED), 750);
        kernel.tick(2);
        due("gone", kernel.state(UNUSED), 750);
    }

    /** No run makes a job late: see the README. */
    void missedIs0ThroughEveryChange() {
        ElasticKernel kernel = new ElasticKernel();
        kernel.add(1, 1, 2, 8, 1);
        kernel.add(2, 2, 4, 16, 3);
        for (int round = 0; round < 40; round++) {
            due("joins", kernel.add(3 + round, 1, 3, 9, 5) >= 0, true);
            kernel.tick(7);
            kernel.load(round % 2 == 0 ? 500 : 1000);
            kernel.tick(5);
            kernel.leave(3 + round);
            kernel.tick(11);
            due("none late", kernel.state(MISSED), 0);
        }
    }

    void tasksAreCountedTillTheyAreGone() {
        ElasticKernel kernel = new ElasticKernel();
        due("none", kernel.state(TASKS), 0);
        kernel.add(1, 1, 4, 4, 1);
        due("ANNOUNCED", kernel.state(TASKS), 1);
        kernel.tick(1);
        due("IN FORCE", kernel.state(TASKS), 1);
        kernel.add(2, 1, 4, 4, 1);
        due("both", kernel.state(TASKS), 2);
        kernel.leave(1);
        due("one is LEAVING", kernel.state(TASKS), 2);
        kernel.leave(2);
        due("the ANNOUNCED one is gone", kernel.state(TASKS), 1);
        kernel.tick(3);
        due("the clock is its end", kernel.state(TASKS), 1);
        kernel.tick(1);
        due("gone", kernel.state(TASKS), 0);
    }

    void refusedIs0AsYet() {
        ElasticKernel kernel = new ElasticKernel();
        kernel.add(5, 1, 2, 2, 1);
        due("nothing was REFUSED", kernel.state(REFUSED_AT), 0);
        kernel.add(5, 1, 2, 2, 1);
        kernel.add(0, 1, 2, 2, 1);
        kernel.load(0);
        kernel.load(1001);
        kernel.leave(6);
        kernel.use(5, 2);
        due("but only answered with NONE or false", kernel.state(REFUSED_AT), 0);
    }

    void refusedAddAtTheNewOne() {
        ElasticKernel kernel = twoHalves();
        kernel.add(9, 1, 20000, 20000, 1);
        due("the last by its id", kernel.state(REFUSED_AT), 9);
        kernel = new ElasticKernel();
        kernel.load(999);
        kernel.add(99, 1, 1, 1, 1);
        due("alone", kernel.state(REFUSED_AT), 99);
        kernel = twoHalves();
        kernel.add(6, 2, 3, 3, 1);
        due("between the two", kernel.state(REFUSED_AT), 6);
    }

    void refusedAddAtOneBehindTheNewOne() {
        ElasticKernel kernel = twoHalves();
        kernel.add(6, 1, 20000, 20000, 1);
        due("new between the two", kernel.state(REFUSED_AT), 7);
        kernel = twoHalves();
        kernel.add(3, 1, 20000, 20000, 1);
        due("new before the two", kernel.state(REFUSED_AT), 7);
        kernel = twoHalves();
        kernel.add(3, 2, 3, 3, 1);
        due("new before the two, by the first of them", kernel.state(REFUSED_AT), 5);
    }

    void refusedLoadAtTheFirstTheMiddleAndTheLast() {
        ElasticKernel kernel = new ElasticKernel();
        kernel.add(30, 1, 4, 4, 1);
        kernel.add(10, 1, 4, 4, 1);
        kernel.add(20, 1, 4, 4, 1);
        kernel.load(749);
        due("the last", kernel.state(REFUSED_AT), 30);
        kernel.load(500);
        due("two just fit", kernel.state(REFUSED_AT), 30);
        kernel.load(499);
        due("the middle one", kernel.state(REFUSED_AT), 20);
        kernel.load(250);
        due("one just fits", kernel.state(REFUSED_AT), 20);
        kernel.load(249);
        due("the first", kernel.state(REFUSED_AT), 10);
        kernel.load(1);
        due("the first", kernel.state(REFUSED_AT), 10);
    }

    void refusedAtALeavingTask() {
        ElasticKernel kernel = twoHalves();
        kernel.tick(1);
        kernel.leave(7);
        kernel.add(6, 1, 20000, 20000, 1);
        due("LEAVING ones count", kernel.state(REFUSED_AT), 7);
        kernel.leave(5);
        kernel.load(499);
        due("LEAVING ones count", kernel.state(REFUSED_AT), 5);
    }

    void refusedTellsTheLatest() {
        ElasticKernel kernel = twoHalves();
        kernel.load(1);
        due("a load", kernel.state(REFUSED_AT), 5);
        kernel.add(9, 1, 2, 2, 1);
        due("an add", kernel.state(REFUSED_AT), 9);
        kernel.load(999);
        due("a load", kernel.state(REFUSED_AT), 7);
        kernel.load(1000);
        kernel.leave(7);
        kernel.add(8, 1, 2, 2, 1);
        kernel.tick(9);
        kernel.load(0);
        kernel.add(100, 1, 2, 2, 1);
        due("kept, though the task is gone", kernel.state(REFUSED_AT), 7);
    }

    private static ElasticKernel twoHalves() {
        ElasticKernel kernel = new ElasticKernel();
        kernel.add(5, 1, 2, 2, 1);
        kernel.add(7, 1, 2, 2, 1);
        return kernel;
    }

    private void unused(int cost, int period, int want) {
        ElasticKernel kernel = new ElasticKernel();
        kernel.add(1, cost, period, period, 1);
        due(cost + " / " + period, kernel.state(UNUSED), want);
    }
}
