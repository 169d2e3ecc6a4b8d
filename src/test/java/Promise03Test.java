/** Promise 3: leave. */
final class Promise03Test extends Cases {
    public static void main(String[] args) {
        new Promise03Test().runAll();
    }

    void noSuchTask() {
        ElasticKernel kernel = new ElasticKernel();
        due("empty", kernel.leave(1), false);
        kernel.add(1, 1, 2, 2, 1);
        kernel.tick(1);
        int[] ids = {0, -1, 2, 99, 100, LOWEST, HIGHEST};
        for (int id : ids) {
            due("leave(" + id + ")", kernel.leave(id), false);
        }
        states("nothing changed", kernel, 1, 1000, 0, 1, 500, 0, 1, 0);
    }

    void leavingAlready() {
        ElasticKernel kernel = new ElasticKernel();
        kernel.add(4, 3, 6, 6, 1);
        kernel.tick(1);
        due("IN FORCE", kernel.leave(4), true);
        kernel.tick(1);
        due("LEAVING", kernel.leave(4), false);
        states("nothing changed", kernel, 2, 1000, 0, 2, 1000, 6, 1, 0);
        tasks("leaving", kernel, 4, LEAVING, 6, 6, 6, 1, 0, 0, 0);
        kernel.tick(4);
        due("LEAVING, its period ends", kernel.leave(4), false);
        kernel.tick(1);
        due("gone", kernel.leave(4), false);
        due("solves", kernel.state(SOLVES), 2);
    }

    void announcedIsGoneAtOnce() {
        ElasticKernel kernel = new ElasticKernel();
        kernel.add(1, 3, 4, 8, 1);
        kernel.add(2, 3, 4, 8, 1);
        due("pressed", kernel.task(1, SOLVED), 6);
        due("leaves", kernel.leave(2), true);
        due("gone", kernel.task(2, PHASE), NONE);
        due("room for the other", kernel.task(1, SOLVED), 4);
        states("one is left", kernel, 0, 1000, 0, 3, 250, 0, 1, 0);
        due("not twice", kernel.leave(2), false);
        due("its id is free", kernel.add(2, 1, 4, 4, 1), 0);
    }

    void announcedIsGoneAtOnceThoughItsTimeHasCome() {
        ElasticKernel kernel = new ElasticKernel();
        kernel.add(1, 1, 5, 5, 1);
        kernel.tick(3);
        due("to come with the next tick", kernel.add(2, 1, 5, 5, 1), 0);
        due("leaves", kernel.leave(2), true);
        due("gone", kernel.task(2, PHASE), NONE);
        due("nobody comes", kernel.tick(1), 0);
    }

    void announcedDoesNotHoldUpTheInstant() {
        ElasticKernel kernel = new ElasticKernel();
        kernel.add(1, 1, 5, 5, 1);
        kernel.leave(1);
        due("the INSTANT", kernel.state(INSTANT), 0);
        due("no wait", kernel.add(2, 1, 5, 5, 1), 0);
    }

    void inForceIsThereTillItsPeriodEnds() {
        ElasticKernel kernel = new ElasticKernel();
        kernel.add(4, 3, 6, 6, 1);
        kernel.tick(1);
        due("leaves", kernel.leave(4), true);
        due("LEAVING", kernel.task(4, PHASE), LEAVING);
        due("the INSTANT is its end", kernel.state(INSTANT), 6);
        ticks("its job goes on, then none", kernel, 4, 4, 0, 0, 0);
        tasks("the clock is its end", kernel, 4, LEAVING, 6, 6, 6, 0, 1, 3, 0);
        due("no new job", kernel.tick(1), 0);
        due("gone", kernel.task(4, PHASE), NONE);
        due("none is there", kernel.state(TASKS), 0);
        due("none late", kernel.state(MISSED), 0);
    }

    void inForceOfTheShortestPeriodLeaves() {
        ElasticKernel kernel = new ElasticKernel();
        kernel.add(4, 1, 1, 1, 1);
        kernel.tick(1);
        due("the shortest period has ended", kernel.leave(4), true);
        due("the INSTANT", kernel.state(INSTANT), 1);
        due("gone", kernel.tick(1), 0);
        due("gone", kernel.state(TASKS), 0);
    }

    void inForceLeavesAsItsPeriodEnds() {
        ElasticKernel kernel = new ElasticKernel();
        kernel.add(4, 1, 2, 2, 1);
        kernel.tick(2);
        due("leaves", kernel.leave(4), true);
        due("LEAVING", kernel.task(4, PHASE), LEAVING);
        due("the INSTANT is the clock", kernel.state(INSTANT), 2);
        due("no new job", kernel.tick(1), 0);
        due("gone", kernel.task(4, PHASE), NONE);
    }

    void lastOneLeavesNoLoads() {
        ElasticKernel kernel = new ElasticKernel();
        kernel.add(4, 1, 2, 2, 1);
        kernel.leave(4);
        total("none is there", kernel, 0, 1);
        states("none is there", kernel, 0, 1000, 0, 2, 1000, 0, 0, 0);
    }

    void givesBackAtTheInstant() {
        ElasticKernel kernel = new ElasticKernel();
        kernel.add(1, 2, 4, 8, 1);
        kernel.add(2, 3, 6, 12, 1);
        kernel.add(3, 2, 10, 20, 2);
        kernel.tick(1);
        kernel.leave(3);
        due("the INSTANT", kernel.state(INSTANT), 13);
        due("solved anew", kernel.task(1, SOLVED), 4);
        due("in force yet", kernel.task(1, PERIOD), 5);
        kernel.tick(10);
        due("kept before the INSTANT", kernel.task(1, PERIOD), 5);
        due("till 15", kernel.task(1, END), 15);
        due("the other kept too", kernel.task(2, END), 16);
        kernel.tick(2);
        due("not gone at 13", kernel.task(3, PHASE), LEAVING);
        kernel.tick(1);
        due("gone with the tick at 13", kernel.task(3, PHASE), NONE);
        kernel.tick(2);
        due("shorter from 15 on", kernel.task(1, PERIOD), 4);
        due("till 19", kernel.task(1, END), 19);
        due("the other not yet", kernel.task(2, PERIOD), 8);
        kernel.tick(1);
        due("the other from 16 on", kernel.task(2, END), 22);
    }
}
