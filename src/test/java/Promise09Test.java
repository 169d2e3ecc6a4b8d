import java.math.BigInteger;

/** Promise 9: total. */
final class Promise09Test extends Cases {
    public static void main(String[] args) {
        new Promise09Test().runAll();
    }

    void emptyAtFirst() {
        ElasticKernel kernel = new ElasticKernel();
        totalWords("0", kernel, ABOVE, 0, 0, 0);
        totalWords("1", kernel, BELOW, 1, 0, 0);
    }

    void emptyWithLeavingTasksOnly() {
        ElasticKernel kernel = new ElasticKernel();
        kernel.add(1, 1, 3, 3, 1);
        kernel.add(2, 1, 7, 7, 1);
        total("both", kernel, 10, 21);
        kernel.tick(1);
        kernel.leave(1);
        total("one", kernel, 1, 7);
        kernel.leave(2);
        due("they are there", kernel.state(TASKS), 2);
        total("none", kernel, 0, 1);
        kernel.tick(10);
        due("they are gone", kernel.state(TASKS), 0);
        total("none", kernel, 0, 1);
    }

    void emptyWhenTheLastAnnouncedLeaves() {
        ElasticKernel kernel = new ElasticKernel();
        kernel.add(1, 1, 3, 3, 1);
        kernel.leave(1);
        total("none", kernel, 0, 1);
    }

    void emptyWhenTheFirstIsRefused() {
        ElasticKernel kernel = new ElasticKernel();
        kernel.load(100);
        due("REFUSED", kernel.add(1, 1, 3, 3, 1), NONE);
        total("none", kernel, 0, 1);
    }

    void threeTasksMakeTwoWords() {
        ElasticKernel kernel = threeTasks();
        totalWords("1199240111", kernel, ABOVE, 8057775, 71, 0, 0);
        totalWords("7992402219811", kernel, BELOW, 4952867, 476384, 0, 0);
    }

    /** The sum was added up with the library's big numbers. */
    void twelveTasksMakeTheLongest() {
        int[] primes = {19997, 19993, 19991, 19979, 19973, 19963, 19961, 19949, 19937, 19927, 19919, 19913};
        ElasticKernel kernel = new ElasticKernel();
        BigInteger above = BigInteger.ZERO;
        BigInteger below = BigInteger.ONE;
        for (int i = 0; i < primes.length; i++) {
            due("there is room", kernel.add(i + 1, 1, primes[i], primes[i], 1), 0);
            BigInteger prime = BigInteger.valueOf(primes[i]);
            above = above.multiply(prime).add(below);
            below = below.multiply(prime);
        }
        for (int k = 0; k < 20; k++) {
            due("word " + k + " above", kernel.total(ABOVE, k), above.shiftRight(24 * k).intValue() & 0xffffff);
            due("word " + k + " below", kernel.total(BELOW, k), below.shiftRight(24 * k).intValue() & 0xffffff);
        }
    }

    void justAllThatIsAllowed() {
        ElasticKernel kernel = new ElasticKernel();
        kernel.add(1, 1, 1, 4, 3);
        kernel.add(2, 1, 1, 4, 7);
        total("all", kernel, 1, 1);
        kernel.load(650);
        total("what is ALLOWED", kernel, 13, 20);
        kernel.load(649);
        total("what is ALLOWED", kernel, 649, 1000);
        kernel.load(500);
        total("the LEAST loads", kernel, 1, 2);
    }

    void partTooSmall() {
        ElasticKernel kernel = threeTasks();
        due("-1", kernel.total(-1, 0), NONE);
        due("the lowest", kernel.total(LOWEST, 0), NONE);
        due("empty", new ElasticKernel().total(-1, 0), NONE);
    }

    void partTooLarge() {
        ElasticKernel kernel = threeTasks();
        due("2", kernel.total(2, 0), NONE);
        due("the highest", kernel.total(HIGHEST, 0), NONE);
        due("2, behind the last one", kernel.total(2, 99), NONE);
        due("empty", new ElasticKernel().total(2, 0), NONE);
    }

    void kBelow0() {
        ElasticKernel kernel = threeTasks();
        due("-1", kernel.total(ABOVE, -1), NONE);
        due("-1", kernel.total(BELOW, -1), NONE);
        due("the lowest", kernel.total(BELOW, LOWEST), NONE);
        due("empty", new ElasticKernel().total(ABOVE, -1), NONE);
    }

    void kBehindTheLastWord() {
        ElasticKernel kernel = threeTasks();
        int[] behind = {2, 3, 12, 13, 14, 15, 16, 17, 23, 24, 25, 31, 32, 64, 1000, HIGHEST};
        for (int k : behind) {
            due("total(0, " + k + ")", kernel.total(ABOVE, k), 0);
            due("total(1, " + k + ")", kernel.total(BELOW, k), 0);
        }
    }

    void asTheyWereSolvedLast() {
        ElasticKernel kernel = new ElasticKernel();
        kernel.add(1, 2, 4, 8, 1);
        kernel.tick(1);
        kernel.load(400);
        total("solved", kernel, 2, 5);
        due("REFUSED", kernel.load(100), false);
        due("REFUSED", kernel.add(2, 9, 9, 9, 1), NONE);
        total("as before", kernel, 2, 5);
        kernel.tick(10);
        total("as before", kernel, 2, 5);
    }

    private static ElasticKernel threeTasks() {
        ElasticKernel kernel = new ElasticKernel();
        kernel.add(1, 1, 19997, 20000, 1);
        kernel.add(2, 1, 19993, 20000, 1);
        kernel.add(3, 1, 19991, 20000, 1);
        return kernel;
    }
}
