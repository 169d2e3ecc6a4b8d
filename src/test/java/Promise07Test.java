/** Promise 7: task. */
final class Promise07Test extends Cases {
    public static void main(String[] args) {
        new Promise07Test().runAll();
    }

    void noSuchTask() {
        ElasticKernel kernel = new ElasticKernel();
        due("empty", kernel.task(1, PHASE), NONE);
        kernel.add(8, 3, 6, 9, 1);
        int[] ids = {0, -1, 7, 9, 99, 100, LOWEST, HIGHEST};
        for (int id : ids) {
            for (int what = PHASE; what <= FLAT; what++) {
                due("task(" + id + ", " + what + ")", kernel.task(id, what), NONE);
            }
        }
    }

    void taskThatIsGone() {
        ElasticKernel kernel = new ElasticKernel();
        kernel.add(8, 3, 6, 9, 1);
        kernel.tick(1);
        kernel.leave(8);
        kernel.tick(6);
        tasks("gone", kernel, 8, NONE, NONE, NONE, NONE, NONE, NONE, NONE, NONE);
    }

    void whatTooSmall() {
        ElasticKernel kernel = new ElasticKernel();
        kernel.add(8, 3, 6, 9, 1);
        due("-1", kernel.task(8, -1), NONE);
        due("the lowest", kernel.task(8, LOWEST), NONE);
    }

    void whatTooLarge() {
        ElasticKernel kernel = new ElasticKernel();
        kernel.add(8, 3, 6, 9, 1);
        due("8", kernel.task(8, 8), NONE);
        due("the highest", kernel.task(8, HIGHEST), NONE);
        due("no task, and 8", kernel.task(9, 8), NONE);
    }

    void announcedHasNoPeriodInForce() {
        ElasticKernel kernel = new ElasticKernel();
        kernel.tick(5);
        kernel.add(8, 3, 6, 9, 1);
        tasks("ANNOUNCED", kernel, 8, ANNOUNCED, 0, 6, 0, 0, 0, 0, 0);
        kernel.use(8, 2);
        kernel.load(400);
        tasks("ANNOUNCED, solved anew", kernel, 8, ANNOUNCED, 0, 8, 0, 0, 0, 0, 0);
    }

    void inForceGoesThroughItsPeriod() {
        ElasticKernel kernel = new ElasticKernel();
        kernel.add(8, 3, 6, 9, 1);
        kernel.tick(1);
        tasks("released", kernel, 8, IN_FORCE, 6, 6, 6, 2, 0, 0, 0);
        kernel.tick(1);
        tasks("its last tick but one", kernel, 8, IN_FORCE, 6, 6, 6, 1, 0, 0, 0);
        kernel.tick(1);
        tasks("done", kernel, 8, IN_FORCE, 6, 6, 6, 0, 1, 3, 0);
        kernel.tick(3);
        tasks("the clock is its end", kernel, 8, IN_FORCE, 6, 6, 6, 0, 1, 3, 0);
        kernel.tick(1);
        tasks("the next one", kernel, 8, IN_FORCE, 6, 6, 12, 2, 1, 3, 0);
    }

    void inForceKeepsItsPeriodAsItIsSolvedAnew() {
        ElasticKernel kernel = new ElasticKernel();
        kernel.add(8, 3, 6, 9, 1);
        kernel.tick(3);
        kernel.load(400);
        tasks("pressed", kernel, 8, IN_FORCE, 6, 8, 6, 0, 1, 3, 0);
    }

    void leavingTellsThePeriodInForceAsTheSolvedOne() {
        ElasticKernel kernel = new ElasticKernel();
        kernel.add(8, 3, 6, 9, 1);
        kernel.tick(3);
        kernel.load(400);
        kernel.leave(8);
        tasks("solved with 8 before", kernel, 8, LEAVING, 6, 6, 6, 0, 1, 3, 0);
        kernel = new ElasticKernel();
        kernel.add(8, 3, 6, 9, 1);
        kernel.load(400);
        kernel.tick(1);
        kernel.load(1000);
        due("solved with less", kernel.task(8, SOLVED), 6);
        kernel.leave(8);
        tasks("solved with 6 before", kernel, 8, LEAVING, 8, 8, 8, 2, 0, 0, 0);
    }

    void latestEndIs0AsYet() {
        ElasticKernel kernel = new ElasticKernel();
        kernel.add(8, 3, 6, 9, 1);
        due("ANNOUNCED", kernel.task(8, LATEST_END), 0);
        kernel.tick(2);
        due("its first job is not done", kernel.task(8, LATEST_END), 0);
        kernel.tick(1);
        due("it is", kernel.task(8, LATEST_END), 3);
    }

    void flatOfTheFullLoad() {
        ElasticKernel kernel = flatCases(1000);
        due("the FULL load", kernel.task(1, FLAT), 0);
        due("the LEAST load is the FULL one", kernel.task(2, FLAT), 0);
        due("the FULL load", kernel.task(3, FLAT), 0);
    }

    void flatOfJustAboveTheLeastLoad() {
        ElasticKernel kernel = flatCases(750);
        due("pressed by 250 / 1001", kernel.task(1, SOLVED), 4);
        due("not flat yet", kernel.task(1, FLAT), 0);
        due("the LEAST load is the FULL one", kernel.task(2, FLAT), 0);
    }

    void flatOfTheLeastLoad() {
        ElasticKernel kernel = flatCases(749);
        due("flat", kernel.task(1, FLAT), 1);
        due("the LEAST load is the FULL one", kernel.task(2, FLAT), 0);
        due("the stiff one is not", kernel.task(3, FLAT), 0);
        kernel.tick(1);
        due("flat and IN FORCE", kernel.task(1, FLAT), 1);
        kernel.load(1000);
        due("not flat any more", kernel.task(1, FLAT), 0);
    }

    void flatOfAllLeastLoads() {
        ElasticKernel kernel = flatCases(625);
        due("flat", kernel.task(1, FLAT), 1);
        due("the LEAST load is the FULL one", kernel.task(2, FLAT), 0);
        due("flat", kernel.task(3, FLAT), 1);
    }

    void flatOfJustTheLeastLoadWithoutBeingHeldThere() {
        ElasticKernel kernel = new ElasticKernel();
        kernel.add(1, 1, 2, 4, 2);
        kernel.add(2, 2, 4, 20, 2);
        kernel.load(500);
        due("just as far as flat", kernel.task(1, FLAT), 1);
        due("as far, not flat", kernel.task(2, FLAT), 0);
        due("as far", kernel.task(2, SOLVED), 8);
    }

    void flatOfALeavingTaskIs0() {
        ElasticKernel kernel = new ElasticKernel();
        kernel.add(1, 1, 4, 8, 1);
        kernel.add(2, 1, 2, 4, 1);
        kernel.add(3, 1, 2, 4, 1000);
        kernel.load(700);
        due("ANNOUNCED", kernel.task(1, FLAT), 1);
        kernel.tick(1);
        due("IN FORCE", kernel.task(1, FLAT), 1);
        kernel.leave(1);
        tasks("LEAVING", kernel, 1, LEAVING, 8, 8, 8, 1, 0, 0, 0);
        due("another stays flat", kernel.task(2, FLAT), 1);
        due("the stiff one is not", kernel.task(3, FLAT), 0);
        kernel.load(625);
        due("LEAVING, and all others give way", kernel.task(1, FLAT), 0);
        kernel.tick(7);
        due("LEAVING till the end", kernel.task(1, FLAT), 0);
        kernel.tick(1);
        due("gone", kernel.task(1, FLAT), NONE);
        kernel.load(500);
        kernel.add(1, 1, 4, 8, 1);
        due("REFUSED, not there", kernel.task(1, FLAT), NONE);
        kernel.load(625);
        kernel.add(1, 1, 4, 8, 1);
        due("there again, flat again", kernel.task(1, FLAT), 1);
    }

    private static ElasticKernel flatCases(int allowed) {
        ElasticKernel kernel = new ElasticKernel();
        kernel.add(1, 1, 2, 4, 1);
        kernel.add(2, 1, 4, 4, 1);
        kernel.add(3, 1, 4, 8, 1000);
        kernel.load(allowed);
        return kernel;
    }
}
