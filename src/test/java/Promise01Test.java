/** Promise 1: a new object. */
final class Promise01Test extends Cases {
    public static void main(String[] args) {
        new Promise01Test().runAll();
    }

    void stateIsAsTheTermsGive() {
        states("new", new ElasticKernel(), 0, 1000, 0, 0, 1000, 0, 0, 0);
    }

    void emptyHasNoLoads() {
        total("new", new ElasticKernel(), 0, 1);
    }

    void emptyHasNoTaskOfAnyId() {
        ElasticKernel kernel = new ElasticKernel();
        for (int id = 0; id <= 100; id++) {
            due("task " + id, kernel.task(id, PHASE), NONE);
            due("rate " + id, kernel.rate(id, ABOVE, 0), NONE);
            due("leave " + id, kernel.leave(id), false);
            due("use " + id, kernel.use(id, 0), false);
        }
        states("asked in vain", kernel, 0, 1000, 0, 0, 1000, 0, 0, 0);
    }

    void emptyTicksAreIdle() {
        ElasticKernel kernel = new ElasticKernel();
        due("the first tick", kernel.tick(1), 0);
        states("one tick later", kernel, 1, 1000, 0, 0, 1000, 0, 0, 0);
    }

    void objectsShareNothing() {
        ElasticKernel one = new ElasticKernel();
        ElasticKernel other = new ElasticKernel();
        due("add", one.add(1, 1, 2, 2, 1), 0);
        one.load(700);
        one.add(2, 1, 2, 2, 1);
        one.tick(3);
        states("the other one", other, 0, 1000, 0, 0, 1000, 0, 0, 0);
        states("a third one", new ElasticKernel(), 0, 1000, 0, 0, 1000, 0, 0, 0);
        due("no task in the other one", other.task(1, PHASE), NONE);
        total("the other one", other, 0, 1);
    }

    void noneIsMinusOne() {
        due("NONE", ElasticKernel.NONE, -1);
    }

    /** The calls are counted: 1 + 510 + 1. */
    void the512thCallIsAnswered() {
        ElasticKernel kernel = new ElasticKernel();
        kernel.add(1, 1, 20000, 20000, 1);
        for (int call = 2; call <= 511; call++) {
            due("tick(5000), call " + call, kernel.tick(5000), 0);
        }
        due("ENDS, 0 to 2540000 by 20000", kernel.task(1, ENDS), 128);
    }

    void theClockReachesItsUtmost() {
        ElasticKernel kernel = new ElasticKernel();
        for (int call = 1; call <= 511; call++) {
            kernel.tick(5000);
        }
        due("the clock, call 512", kernel.state(CLOCK), 2555000);
    }
}
