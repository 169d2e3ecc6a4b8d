/** Promise 8: rate. */
final class Promise08Test extends Cases {
    public static void main(String[] args) {
        new Promise08Test().runAll();
    }

    void noSuchTask() {
        ElasticKernel kernel = twoWords();
        int[] ids = {0, -1, 3, 99, 100, LOWEST, HIGHEST};
        for (int id : ids) {
            due("rate(" + id + ", 0, 0)", kernel.rate(id, ABOVE, 0), NONE);
            due("rate(" + id + ", 1, 0)", kernel.rate(id, BELOW, 0), NONE);
        }
    }

    void announcedHasALoad() {
        ElasticKernel kernel = twoWords();
        due("ANNOUNCED", kernel.task(1, PHASE), ANNOUNCED);
        rateWords("11034214667", kernel, 1, ABOVE, 11583755, 657, 0, 0);
        rateWords("22429237108", kernel, 1, BELOW, 14876532, 1336, 0, 0);
        rateWords("11395022441", kernel, 2, ABOVE, 3292777, 679, 0, 0);
        rateWords("22429237108", kernel, 2, BELOW, 14876532, 1336, 0, 0);
        due("rounded up", kernel.task(1, SOLVED), 14231);
        due("rounded up", kernel.task(2, SOLVED), 17717);
    }

    void inForceHasALoad() {
        ElasticKernel kernel = twoWords();
        kernel.tick(1);
        due("IN FORCE", kernel.task(1, PHASE), IN_FORCE);
        rateWords("11034214667", kernel, 1, ABOVE, 11583755, 657, 0, 0);
        rateWords("22429237108", kernel, 1, BELOW, 14876532, 1336, 0, 0);
    }

    void leavingHasNone() {
        ElasticKernel kernel = twoWords();
        kernel.tick(1);
        kernel.leave(2);
        rateWords("LEAVING", kernel, 2, ABOVE, NONE, NONE, NONE);
        rateWords("LEAVING", kernel, 2, BELOW, NONE, NONE, NONE);
        due("LEAVING, behind the last one", kernel.rate(2, ABOVE, 99), NONE);
        rate("the other one, full at once", kernel, 1, 7001, 7919);
    }

    void goneHasNone() {
        ElasticKernel kernel = twoWords();
        kernel.leave(2);
        due("gone", kernel.rate(2, ABOVE, 0), NONE);
        due("gone", kernel.rate(2, BELOW, 0), NONE);
        rate("the other one, full at once", kernel, 1, 7001, 7919);
    }

    void refusedHasNone() {
        ElasticKernel kernel = new ElasticKernel();
        kernel.add(1, 1, 1, 1, 1);
        kernel.add(2, 1, 9, 9, 1);
        due("REFUSED", kernel.rate(2, ABOVE, 0), NONE);
        rate("the other one", kernel, 1, 1, 1);
    }

    void partTooSmall() {
        ElasticKernel kernel = twoWords();
        due("-1", kernel.rate(1, -1, 0), NONE);
        due("the lowest", kernel.rate(1, LOWEST, 0), NONE);
    }

    void partTooLarge() {
        ElasticKernel kernel = twoWords();
        due("2", kernel.rate(1, 2, 0), NONE);
        due("the highest", kernel.rate(1, HIGHEST, 0), NONE);
        due("2, behind the last one", kernel.rate(1, 2, 99), NONE);
    }

    void kBelow0() {
        ElasticKernel kernel = twoWords();
        due("-1", kernel.rate(1, ABOVE, -1), NONE);
        due("-1", kernel.rate(1, BELOW, -1), NONE);
        due("the lowest", kernel.rate(1, ABOVE, LOWEST), NONE);
    }

    void kBehindTheLastWord() {
        ElasticKernel kernel = twoWords();
        int[] behind = {2, 3, 12, 13, 14, 15, 16, 17, 23, 24, 25, 31, 32, 64, 1000, HIGHEST};
        for (int k : behind) {
            due("rate(1, 0, " + k + ")", kernel.rate(1, ABOVE, k), 0);
            due("rate(1, 1, " + k + ")", kernel.rate(1, BELOW, k), 0);
        }
    }

    void asItWasSolvedLastNotAsItIsInForce() {
        ElasticKernel kernel = new ElasticKernel();
        kernel.add(1, 2, 4, 8, 1);
        kernel.tick(1);
        kernel.load(400);
        rate("solved", kernel, 1, 2, 5);
        due("in force", kernel.task(1, PERIOD), 4);
        kernel.load(100);
        rate("REFUSED", kernel, 1, 2, 5);
        kernel.tick(10);
        rate("later", kernel, 1, 2, 5);
    }

    private static ElasticKernel twoWords() {
        ElasticKernel kernel = new ElasticKernel();
        kernel.add(1, 7001, 7919, 20000, 997);
        kernel.add(2, 9001, 9973, 19997, 991);
        return kernel;
    }
}
