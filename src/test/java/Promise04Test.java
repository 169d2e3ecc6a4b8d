/** Promise 4: load. */
final class Promise04Test extends Cases {
    public static void main(String[] args) {
        new Promise04Test().runAll();
    }

    void tooSmall() {
        refusesNumber(0);
        refusesNumber(-1);
        refusesNumber(LOWEST);
    }

    void tooLarge() {
        refusesNumber(1001);
        refusesNumber(HIGHEST);
    }

    void atItsBoundsWhenEmpty() {
        ElasticKernel kernel = new ElasticKernel();
        due("the least", kernel.load(1), true);
        states("the least", kernel, 0, 1, 0, 1, 1, 0, 0, 0);
        due("the most", kernel.load(1000), true);
        states("the most", kernel, 0, 1000, 0, 2, 1000, 0, 0, 0);
        total("none is there", kernel, 0, 1);
    }

    void leastLoadsJustAllowed() {
        ElasticKernel kernel = twoTasks();
        due("1/4 + 1/8", kernel.load(375), true);
        states("flat", kernel, 0, 375, 0, 3, 0, 0, 2, 0);
        due("flat", kernel.task(1, SOLVED), 4);
        due("flat", kernel.task(2, SOLVED), 8);
    }

    void leastLoadsJustTooMuch() {
        ElasticKernel kernel = twoTasks();
        due("1/4 + 1/8", kernel.load(374), false);
        states("nothing changed but state(7)", kernel, 0, 1000, 0, 2, 250, 0, 2, 2);
        due("full yet", kernel.task(1, SOLVED), 2);
        rate("full yet", kernel, 1, 1, 2);
        due("by the first alone", kernel.load(249), false);
        due("by the first alone", kernel.state(REFUSED_AT), 1);
        due("by far", kernel.load(1), false);
    }

    void leastLoadsBetweenThousandths() {
        ElasticKernel kernel = new ElasticKernel();
        kernel.add(1, 1, 1, 3, 1);
        due("1/3 is more", kernel.load(333), false);
        due("1/3 is less", kernel.load(334), true);
        due("1000 / 334, upwards", kernel.task(1, SOLVED), 3);
        rate("167 / 500", kernel, 1, 167, 500);
    }

    void leastLoadsCountNotTheFullOnes() {
        ElasticKernel kernel = twoTasks();
        due("the full ones come to 750", kernel.load(749), true);
        due("pressed", kernel.task(1, SOLVED), 3);
        due("just the full ones", kernel.load(750), true);
        due("not pressed", kernel.task(1, SOLVED), 2);
    }

    void leastLoadsOfLeavingTasksCount() {
        ElasticKernel kernel = new ElasticKernel();
        kernel.add(1, 1, 2, 2, 1);
        kernel.add(2, 1, 4, 4, 1);
        kernel.tick(1);
        kernel.leave(1);
        due("1/2 + 1/4", kernel.load(749), false);
        due("REFUSED", kernel.state(REFUSED_AT), 2);
        due("1/2", kernel.load(499), false);
        due("REFUSED by the one that leaves", kernel.state(REFUSED_AT), 1);
        due("1/2 + 1/4", kernel.load(750), true);
        kernel.tick(1);
        due("its period ends, it is there yet", kernel.load(749), false);
        kernel.tick(1);
        due("gone", kernel.load(250), true);
        due("1/4", kernel.load(249), false);
    }

    void badNumberIsNoRefusal() {
        ElasticKernel kernel = new ElasticKernel();
        kernel.add(3, 1, 2, 2, 1);
        due("0", kernel.load(0), false);
        due("-1", kernel.load(-1), false);
        due("not REFUSED", kernel.state(REFUSED_AT), 0);
    }

    void sameNumberAgain() {
        ElasticKernel kernel = twoTasks();
        due("1000 again", kernel.load(1000), true);
        due("ALLOWED", kernel.state(ALLOWED), 1000);
        due("full yet", kernel.task(1, SOLVED), 2);
        // The document is not plain here: the promise calls each load() that is true a change.
        due("a solve", kernel.state(SOLVES), 3);
    }

    void addGoesByWhatIsAllowedNow() {
        ElasticKernel kernel = twoTasks();
        kernel.load(750);
        due("3/8 more in the least", kernel.add(3, 3, 8, 8, 1), 0);
        due("and no more", kernel.add(4, 1, 20000, 20000, 1), NONE);
        due("REFUSED", kernel.state(REFUSED_AT), 4);
    }

    void lessLengthensAtTheEndOfThePeriod() {
        ElasticKernel kernel = new ElasticKernel();
        kernel.add(1, 2, 4, 8, 1);
        kernel.tick(1);
        kernel.load(250);
        due("solved", kernel.task(1, SOLVED), 8);
        due("the INSTANT", kernel.state(INSTANT), 4);
        kernel.tick(3);
        due("not before the period ends", kernel.task(1, PERIOD), 4);
        kernel.tick(1);
        due("longer", kernel.task(1, PERIOD), 8);
        due("till 12", kernel.task(1, END), 12);
    }

    void moreShortensAtTheEndOfThePeriod() {
        ElasticKernel kernel = new ElasticKernel();
        kernel.add(1, 2, 4, 8, 1);
        kernel.load(250);
        kernel.tick(1);
        kernel.load(500);
        due("solved", kernel.task(1, SOLVED), 4);
        due("the INSTANT is the clock", kernel.state(INSTANT), 1);
        kernel.tick(7);
        due("not before the period ends", kernel.task(1, PERIOD), 8);
        kernel.tick(1);
        due("shorter", kernel.task(1, END), 12);
    }

    private ElasticKernel twoTasks() {
        ElasticKernel kernel = new ElasticKernel();
        kernel.add(1, 1, 2, 4, 1);
        kernel.add(2, 1, 4, 8, 1);
        return kernel;
    }

    private void refusesNumber(int thousandths) {
        ElasticKernel kernel = new ElasticKernel();
        due("empty, load(" + thousandths + ")", kernel.load(thousandths), false);
        states("nothing changed", kernel, 0, 1000, 0, 0, 1000, 0, 0, 0);
        kernel = twoTasks();
        due("load(" + thousandths + ")", kernel.load(thousandths), false);
        states("nothing changed", kernel, 0, 1000, 0, 2, 250, 0, 2, 0);
    }
}
