/** Promise 5: use. */
final class Promise05Test extends Cases {
    public static void main(String[] args) {
        new Promise05Test().runAll();
    }

    void noSuchTask() {
        ElasticKernel kernel = new ElasticKernel();
        due("empty", kernel.use(1, 0), false);
        kernel.add(1, 3, 5, 5, 1);
        int[] ids = {0, -1, 2, 99, 100, LOWEST, HIGHEST};
        for (int id : ids) {
            due("use(" + id + ", 0)", kernel.use(id, 0), false);
        }
        kernel.leave(1);
        due("gone", kernel.use(1, 0), false);
    }

    void ticksBelow0() {
        ElasticKernel kernel = new ElasticKernel();
        kernel.add(1, 3, 5, 5, 1);
        due("-1", kernel.use(1, -1), false);
        due("far below", kernel.use(1, LOWEST), false);
        kernel.tick(1);
        due("the job needs the COST", kernel.task(1, NEEDS), 2);
    }

    void ticksAboveCost() {
        ElasticKernel kernel = new ElasticKernel();
        kernel.add(1, 3, 5, 5, 1);
        due("4", kernel.use(1, 4), false);
        due("far above", kernel.use(1, HIGHEST), false);
        kernel.tick(1);
        due("the job needs the COST", kernel.task(1, NEEDS), 2);
    }

    void ticksOf0() {
        ElasticKernel kernel = new ElasticKernel();
        kernel.add(1, 3, 5, 5, 1);
        due("0", kernel.use(1, 0), true);
        due("no tick for it", kernel.tick(1), 0);
        tasks("done at the release", kernel, 1, IN_FORCE, 5, 5, 5, 0, 1, 0, 0);
    }

    void ticksOf1() {
        ElasticKernel kernel = new ElasticKernel();
        kernel.add(1, 3, 5, 5, 1);
        due("1", kernel.use(1, 1), true);
        ticks("one tick", kernel, 1, 0, 0, 0, 0);
        tasks("done", kernel, 1, IN_FORCE, 5, 5, 5, 0, 1, 1, 0);
    }

    void ticksOfJustTheCost() {
        ElasticKernel kernel = new ElasticKernel();
        kernel.add(1, 3, 5, 5, 1);
        due("3", kernel.use(1, 3), true);
        ticks("three ticks", kernel, 1, 1, 1, 0, 0);
        kernel = new ElasticKernel();
        kernel.add(1, 20000, 20000, 20000, 1);
        due("20001", kernel.use(1, 20001), false);
        due("20000", kernel.use(1, 20000), true);
        kernel.tick(1);
        due("the rest", kernel.task(1, NEEDS), 19999);
    }

    void refusedKeepsWhatWasTold() {
        ElasticKernel kernel = new ElasticKernel();
        kernel.add(1, 3, 5, 5, 1);
        kernel.use(1, 2);
        due("above", kernel.use(1, 4), false);
        due("below", kernel.use(1, -1), false);
        ticks("two ticks", kernel, 1, 1, 0, 0, 0);
    }

    void toldTwiceTheLatestCounts() {
        ElasticKernel kernel = new ElasticKernel();
        kernel.add(1, 3, 5, 5, 1);
        kernel.use(1, 0);
        due("again", kernel.use(1, 2), true);
        due("nothing before the release", kernel.task(1, NEEDS), 0);
        ticks("two ticks", kernel, 1, 1, 0, 0, 0);
    }

    void toldForOneJobOnly() {
        ElasticKernel kernel = new ElasticKernel();
        kernel.add(1, 3, 5, 5, 1);
        kernel.use(1, 1);
        ticks("the first", kernel, 1, 0, 0, 0, 0);
        ticks("the COST again", kernel, 1, 1, 1, 0, 0);
        kernel.use(1, 0);
        ticks("none", kernel, 0, 0, 0, 0, 0);
        ticks("the COST again", kernel, 1, 1, 1, 0, 0);
    }

    void toldWhileAJobRunsIsForTheNext() {
        ElasticKernel kernel = new ElasticKernel();
        kernel.add(1, 3, 5, 5, 1);
        kernel.tick(1);
        due("told", kernel.use(1, 1), true);
        due("this one needs what it needed", kernel.task(1, NEEDS), 2);
        ticks("this one", kernel, 1, 1, 0, 0);
        ticks("the next", kernel, 1, 0, 0, 0, 0);
    }

    void toldAsThePeriodEnds() {
        ElasticKernel kernel = new ElasticKernel();
        kernel.add(1, 3, 5, 5, 1);
        kernel.tick(5);
        due("told", kernel.use(1, 1), true);
        ticks("the one released now", kernel, 1, 0, 0, 0, 0);
    }

    void toldToOneTaskOnly() {
        ElasticKernel kernel = new ElasticKernel();
        kernel.add(1, 2, 5, 5, 1);
        kernel.add(2, 2, 5, 5, 1);
        kernel.use(2, 1);
        ticks("2 needs less", kernel, 1, 1, 2, 0, 0);
    }

    void toldToALeavingTask() {
        ElasticKernel kernel = new ElasticKernel();
        kernel.add(1, 3, 5, 5, 1);
        kernel.tick(1);
        kernel.leave(1);
        due("above the COST", kernel.use(1, 4), false);
        due("it is there", kernel.use(1, 1), true);
        due("its job needs what it needed", kernel.task(1, NEEDS), 2);
        kernel.tick(5);
        due("gone", kernel.use(1, 1), false);
    }

    void toldToATaskThatIsGone() {
        ElasticKernel kernel = new ElasticKernel();
        kernel.add(1, 3, 5, 5, 1);
        kernel.use(1, 1);
        kernel.leave(1);
        kernel.add(1, 3, 5, 5, 1);
        ticks("nothing was told to the new one", kernel, 1, 1, 1, 0, 0);
        kernel.leave(1);
        kernel.use(1, 2);
        kernel.tick(1);
        kernel.add(1, 3, 5, 5, 1);
        ticks("nothing was told to the new one", kernel, 1, 1, 1, 0, 0);
    }

    void jobOfNoTicksLetsOthersRun() {
        ElasticKernel kernel = new ElasticKernel();
        kernel.add(1, 3, 5, 5, 1);
        kernel.add(2, 1, 5, 5, 1);
        kernel.tick(4);
        kernel.use(1, 0);
        kernel.tick(1);
        due("ENDS before", kernel.task(1, ENDS), 1);
        due("the other runs", kernel.tick(1), 2);
        due("done at the release", kernel.task(1, ENDS), 2);
        due("with that end", kernel.task(1, LATEST_END), 5);
        due("needs none", kernel.task(1, NEEDS), 0);
        due("none late", kernel.state(MISSED), 0);
    }
}
