/** Promise 6: tick, and what a tick is in the terms. */
final class Promise06Test extends Cases {
    public static void main(String[] args) {
        new Promise06Test().runAll();
    }

    void nTooSmall() {
        throwsAtTick(new ElasticKernel(), 0);
        throwsAtTick(new ElasticKernel(), -1);
        throwsAtTick(new ElasticKernel(), LOWEST);
    }

    void nTooLarge() {
        throwsAtTick(new ElasticKernel(), 5001);
        throwsAtTick(new ElasticKernel(), HIGHEST);
    }

    void nAtItsBounds() {
        ElasticKernel kernel = new ElasticKernel();
        due("the least", kernel.tick(1), 0);
        due("the clock", kernel.state(CLOCK), 1);
        due("the most", kernel.tick(5000), 0);
        due("the clock", kernel.state(CLOCK), 5001);
    }

    void refusedChangesNothing() {
        ElasticKernel kernel = new ElasticKernel();
        kernel.add(1, 2, 4, 4, 1);
        kernel.tick(1);
        kernel.add(2, 1, 4, 4, 1);
        throwsAtTick(kernel, 0);
        throwsAtTick(kernel, 5001);
        states("as before", kernel, 1, 1000, 0, 2, 250, 1, 2, 0);
        tasks("as before", kernel, 1, IN_FORCE, 4, 4, 4, 1, 0, 0, 0);
        due("as before", kernel.task(2, PHASE), ANNOUNCED);
    }

    void lastTickIsIdle() {
        ElasticKernel kernel = new ElasticKernel();
        kernel.add(7, 2, 4, 4, 1);
        due("one got the two before", kernel.tick(3), 0);
        due("idle too", kernel.tick(1), 0);
        due("not the last", kernel.tick(4), 0);
    }

    void lastTickIsTheFirst() {
        ElasticKernel kernel = new ElasticKernel();
        kernel.add(7, 2, 4, 4, 1);
        kernel.tick(3);
        due("idle, then the first of a job", kernel.tick(2), 7);
        due("the last of a job", kernel.tick(1), 7);
        due("of many", kernel.tick(5000), 7);
        due("idle", kernel.tick(1), 0);
        due("ENDS", kernel.task(7, ENDS), 1252);
    }

    void manyTicksAreAsManyOfOne() {
        ElasticKernel many = new ElasticKernel();
        ElasticKernel single = new ElasticKernel();
        ElasticKernel[] both = {many, single};
        for (ElasticKernel kernel : both) {
            kernel.add(1, 2, 4, 8, 1);
            kernel.add(2, 3, 6, 12, 1);
            kernel.add(3, 2, 10, 20, 2);
        }
        int last = 0;
        for (int i = 0; i < 97; i++) {
            last = single.tick(1);
        }
        due("the last", many.tick(97), last);
        for (int id = 1; id <= 3; id++) {
            for (int what = PHASE; what <= FLAT; what++) {
                due("task(" + id + ", " + what + ")", many.task(id, what), single.task(id, what));
            }
        }
    }

    void announcedComesJustAtTheInstant() {
        ElasticKernel kernel = new ElasticKernel();
        kernel.add(1, 1, 10, 10, 1);
        kernel.tick(1);
        kernel.leave(1);
        kernel.add(2, 1, 5, 5, 1);
        kernel.tick(8);
        due("the clock is 9", kernel.task(2, PHASE), ANNOUNCED);
        due("the tick at 9", kernel.tick(1), 0);
        due("the clock is 10", kernel.task(2, PHASE), ANNOUNCED);
        due("the tick at 10", kernel.tick(1), 2);
        tasks("it has come", kernel, 2, IN_FORCE, 5, 5, 15, 0, 1, 11, 0);
    }

    void announcedComesWithinManyTicks() {
        ElasticKernel kernel = new ElasticKernel();
        kernel.add(1, 1, 10, 10, 1);
        kernel.tick(1);
        kernel.leave(1);
        kernel.add(2, 1, 5, 5, 1);
        due("the tick at 20", kernel.tick(20), 2);
        tasks("at 10, 15 and 20", kernel, 2, IN_FORCE, 5, 5, 25, 0, 3, 21, 0);
    }

    void leavingIsGoneJustAtItsEnd() {
        ElasticKernel kernel = new ElasticKernel();
        kernel.add(1, 1, 10, 10, 1);
        kernel.tick(1);
        kernel.leave(1);
        kernel.tick(9);
        due("the clock is 10", kernel.task(1, PHASE), LEAVING);
        kernel.tick(1);
        due("the tick at 10 is done", kernel.task(1, PHASE), NONE);
    }

    void shorterPeriodJustFromTheInstantOn() {
        ElasticKernel kernel = new ElasticKernel();
        kernel.add(1, 1, 2, 20, 1);
        kernel.add(2, 1, 4, 20, 2);
        kernel.add(3, 4, 10, 10, 1);
        due("2/5", kernel.task(1, SOLVED), 3);
        due("1/5", kernel.task(2, SOLVED), 5);
        kernel.tick(1);
        kernel.leave(3);
        due("the INSTANT", kernel.state(INSTANT), 10);
        due("1/2", kernel.task(1, SOLVED), 2);
        due("1/4", kernel.task(2, SOLVED), 4);
        kernel.tick(9);
        tasks("at 9 not yet", kernel, 1, IN_FORCE, 3, 2, 12);
        tasks("nor at 5", kernel, 2, IN_FORCE, 5, 4, 10);
        kernel.tick(1);
        tasks("at 10, the INSTANT", kernel, 2, IN_FORCE, 4, 4, 14);
        kernel.tick(2);
        tasks("behind it", kernel, 1, IN_FORCE, 2, 2, 14);
    }

    void longerPeriodBeforeTheInstant() {
        ElasticKernel kernel = new ElasticKernel();
        kernel.add(1, 1, 4, 8, 1);
        kernel.add(2, 1, 10, 20, 1);
        kernel.tick(1);
        kernel.load(175);
        due("the later end", kernel.state(INSTANT), 10);
        kernel.tick(4);
        due("longer at its own end", kernel.task(1, END), 12);
        due("the other not yet", kernel.task(2, END), 10);
        kernel.load(1000);
        kernel.tick(6);
        due("shorter again by then", kernel.task(2, END), 20);
        kernel.tick(2);
        due("shorter again behind the INSTANT", kernel.task(1, END), 16);
    }

    void samePeriodAgain() {
        ElasticKernel kernel = new ElasticKernel();
        kernel.add(1, 1, 4, 8, 1);
        kernel.tick(4);
        due("till 4", kernel.task(1, END), 4);
        kernel.tick(1);
        due("till 8", kernel.task(1, END), 8);
    }

    void equalDeadlinesGoByTheLeastId() {
        ElasticKernel kernel = new ElasticKernel();
        kernel.add(7, 1, 4, 4, 1);
        kernel.add(3, 2, 4, 4, 1);
        ticks("released at once", kernel, 3, 3, 7, 0, 3, 3, 7, 0);
        kernel = new ElasticKernel();
        kernel.add(7, 5, 8, 8, 1);
        kernel.tick(4);
        kernel.add(3, 1, 4, 4, 1);
        ticks("released later, the same end", kernel, 3, 7, 0, 0);
        kernel = new ElasticKernel();
        kernel.add(3, 5, 8, 8, 1);
        kernel.tick(4);
        kernel.add(7, 1, 4, 4, 1);
        ticks("released earlier, the same end", kernel, 3, 7, 0, 0);
    }

    void earlierDeadlineGoesFirst() {
        ElasticKernel kernel = new ElasticKernel();
        kernel.add(1, 4, 10, 10, 1);
        kernel.add(2, 1, 3, 3, 1);
        ticks("one by one", kernel, 2, 1, 1, 2, 1, 1, 2, 0, 0, 2, 1);
        due("end of the job", kernel.task(1, LATEST_END), 6);
    }

    void leavingKeepsItsTurn() {
        ElasticKernel kernel = new ElasticKernel();
        kernel.add(1, 3, 6, 6, 1);
        kernel.add(2, 3, 8, 8, 1);
        kernel.tick(1);
        kernel.leave(1);
        ticks("the earlier deadline", kernel, 1, 1, 2, 2, 2, 0, 0, 2);
        kernel = new ElasticKernel();
        kernel.add(1, 2, 6, 6, 1);
        kernel.add(2, 2, 6, 6, 1);
        kernel.tick(1);
        kernel.leave(2);
        ticks("the least id of the same end", kernel, 1, 2, 2, 0, 0, 1);
    }

    void doneJustAtItsDeadlineIsNotLate() {
        ElasticKernel kernel = new ElasticKernel();
        kernel.add(1, 1, 1, 1, 1);
        due("each tick a job", kernel.tick(5000), 1);
        tasks("each tick a job", kernel, 1, IN_FORCE, 1, 1, 5000, 0, 5000, 5000, 0);
        due("none late", kernel.state(MISSED), 0);
        kernel = new ElasticKernel();
        kernel.add(1, 1, 2, 2, 1);
        kernel.add(2, 1, 2, 2, 1);
        kernel.tick(1);
        kernel.leave(2);
        kernel.tick(1);
        tasks("one that leaves", kernel, 2, LEAVING, 2, 2, 2, 0, 1, 2, 0);
        kernel.tick(1);
        due("none late", kernel.state(MISSED), 0);
    }

    void longestJobTakesAllOfItsPeriod() {
        ElasticKernel kernel = new ElasticKernel();
        kernel.add(1, 20000, 20000, 20000, 1);
        for (int left = 15000; left > 0; left -= 5000) {
            due("it runs", kernel.tick(5000), 1);
            due("it needs", kernel.task(1, NEEDS), left);
            due("not done", kernel.task(1, ENDS), 0);
        }
        due("its last tick", kernel.tick(5000), 1);
        tasks("done", kernel, 1, IN_FORCE, 20000, 20000, 20000, 0, 1, 20000, 0);
        kernel.tick(1);
        tasks("the next one", kernel, 1, IN_FORCE, 20000, 20000, 40000, 19999, 1, 20000, 0);
        due("none late", kernel.state(MISSED), 0);
    }

    void jobOfNoTicksIsDoneAtItsRelease() {
        ElasticKernel kernel = new ElasticKernel();
        kernel.add(1, 1, 5, 5, 1);
        kernel.use(1, 0);
        due("at 0", kernel.tick(1), 0);
        tasks("with the end 0", kernel, 1, IN_FORCE, 5, 5, 5, 0, 1, 0, 0);
        kernel.use(1, 0);
        due("at 5", kernel.tick(5), 0);
        tasks("with the end 5", kernel, 1, IN_FORCE, 5, 5, 10, 0, 2, 5, 0);
        due("none late", kernel.state(MISSED), 0);
    }

    void jobOfNoTicksOfTheShortestPeriod() {
        ElasticKernel kernel = new ElasticKernel();
        kernel.add(1, 1, 1, 1, 1);
        kernel.use(1, 0);
        ticks("none, then each", kernel, 0, 1, 1);
        kernel.use(1, 0);
        ticks("none, then each", kernel, 0, 1);
        tasks("five jobs", kernel, 1, IN_FORCE, 1, 1, 5, 0, 5, 5, 0);
    }

    void fullLoadLetsNoneBeLate() {
        ElasticKernel kernel = new ElasticKernel();
        kernel.add(1, 1, 2, 2, 1);
        kernel.add(2, 1, 3, 3, 1);
        kernel.add(3, 1, 6, 6, 1);
        ticks("the last one at its deadline", kernel, 1, 2, 1, 2, 1, 3, 1, 2);
        for (int i = 0; i < 20; i++) {
            kernel.tick(4999);
        }
        due("none late", kernel.state(MISSED), 0);
    }
}
