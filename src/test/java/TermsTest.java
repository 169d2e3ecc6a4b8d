import java.math.BigInteger;

/** The terms: the solve, the INSTANT, what a task is, and fractions. */
final class TermsTest extends Cases {
    public static void main(String[] args) {
        new TermsTest().runAll();
    }

    void taskIsAnnouncedInForceLeavingGone() {
        ElasticKernel kernel = new ElasticKernel();
        due("not there", kernel.task(9, PHASE), NONE);
        kernel.add(9, 1, 3, 3, 1);
        due("accepted", kernel.task(9, PHASE), ANNOUNCED);
        kernel.tick(1);
        due("come", kernel.task(9, PHASE), IN_FORCE);
        kernel.leave(9);
        due("leaves", kernel.task(9, PHASE), LEAVING);
        kernel.tick(2);
        due("till its period ends", kernel.task(9, PHASE), LEAVING);
        kernel.tick(1);
        due("gone", kernel.task(9, PHASE), NONE);
    }

    // To solve

    void solveOfFullLoadsJustAllowed() {
        ElasticKernel kernel = new ElasticKernel();
        kernel.add(1, 1, 2, 4, 1);
        kernel.add(2, 1, 3, 6, 1);
        kernel.add(3, 1, 6, 12, 1);
        loadIs("full", kernel, 1, 1, 2, 2);
        loadIs("full", kernel, 2, 1, 3, 3);
        loadIs("full", kernel, 3, 1, 6, 6);
        total("all", kernel, 1, 1);
        kernel = new ElasticKernel();
        kernel.load(500);
        kernel.add(1, 1, 2, 4, 1);
        loadIs("just what is ALLOWED", kernel, 1, 1, 2, 2);
    }

    void solveOfFullLoadsJustTooMuch() {
        ElasticKernel kernel = new ElasticKernel();
        kernel.add(1, 1, 2, 4, 1);
        kernel.add(2, 1, 2, 4, 1);
        kernel.add(3, 1, 20000, 20000, 1);
        loadIs("1/2 - 1/40000", kernel, 1, 19999, 40000, 3);
        loadIs("1/2 - 1/40000", kernel, 2, 19999, 40000, 3);
        loadIs("full and least", kernel, 3, 1, 20000, 20000);
        total("all", kernel, 1, 1);
        kernel = new ElasticKernel();
        kernel.add(1, 1, 2, 4, 1);
        kernel.load(499);
        loadIs("one thousandth too much", kernel, 1, 499, 1000, 3);
    }

    void solveOfNoTasks() {
        ElasticKernel kernel = new ElasticKernel();
        kernel.load(500);
        total("none", kernel, 0, 1);
        states("none", kernel, 0, 500, 0, 1, 500, 0, 0, 0);
    }

    void solveOfJustTheLeastLoad() {
        ElasticKernel kernel = softPair();
        kernel.load(500);
        loadIs("1/2 - 1/4 is the LEAST", kernel, 1, 1, 4, 4);
        loadIs("1/2 - 1/4 is more", kernel, 2, 1, 4, 8);
        due("flat", kernel.task(1, FLAT), 1);
        due("not flat", kernel.task(2, FLAT), 0);
    }

    void solveOfJustAboveTheLeastLoad() {
        ElasticKernel kernel = softPair();
        kernel.load(501);
        loadIs("1/2 - 499/2000", kernel, 1, 501, 2000, 4);
        loadIs("1/2 - 499/2000", kernel, 2, 501, 2000, 8);
        due("not flat", kernel.task(1, FLAT), 0);
    }

    void solveOfBelowTheLeastLoad() {
        ElasticKernel kernel = softPair();
        kernel.load(499);
        loadIs("the LEAST, which is more", kernel, 1, 1, 4, 4);
        loadIs("what is left", kernel, 2, 249, 1000, 9);
        total("all that is ALLOWED", kernel, 499, 1000);
    }

    void solveOfAllLeastLoads() {
        ElasticKernel kernel = softPair();
        kernel.load(350);
        loadIs("the LEAST", kernel, 1, 1, 4, 4);
        loadIs("the LEAST", kernel, 2, 1, 10, 20);
        due("flat", kernel.task(1, FLAT), 1);
        due("flat", kernel.task(2, FLAT), 1);
        total("all that is ALLOWED", kernel, 7, 20);
    }

    void solveOfTheSoftestAndTheStiffest() {
        ElasticKernel kernel = new ElasticKernel();
        kernel.add(1, 1, 2, 4, 1);
        kernel.add(2, 1, 2, 4, 1000);
        kernel.load(900);
        loadIs("1/2 - 100/1001", kernel, 1, 801, 2002, 3);
        loadIs("1/2 - 1/10010", kernel, 2, 2502, 5005, 3);
        total("all that is ALLOWED", kernel, 9, 10);
    }

    void solveOfATaskThatCannotGive() {
        ElasticKernel kernel = new ElasticKernel();
        kernel.add(1, 1, 2, 2, 1);
        kernel.add(2, 1, 2, 4, 1000);
        kernel.load(800);
        loadIs("FULL and LEAST", kernel, 1, 1, 2, 2);
        loadIs("what is left", kernel, 2, 3, 10, 4);
        due("not flat", kernel.task(1, FLAT), 0);
    }

    void solveOfTasksThatAllCannotGive() {
        ElasticKernel kernel = new ElasticKernel();
        kernel.add(1, 1, 2, 2, 1);
        kernel.add(2, 1, 2, 2, 1);
        loadIs("FULL and LEAST", kernel, 1, 1, 2, 2);
        loadIs("FULL and LEAST", kernel, 2, 1, 2, 2);
        due("not flat", kernel.task(1, FLAT), 0);
        total("all", kernel, 1, 1);
    }

    /**
     * Each of the eleven falls below its LEAST load only when those before it are held at theirs:
     * the last one's load was reckoned by a program of another language.
     */
    void solveOfTwelveThatFallOneByOne() {
        ElasticKernel kernel = new ElasticKernel();
        kernel.load(900);
        int[][] falling = {{1, 10, 13, 1}, {1, 10, 84, 2}, {1, 10, 38, 4}, {1, 10, 20, 8}, {2, 20, 29, 16},
            {1, 10, 12, 32}, {15, 150, 164, 64}, {31, 310, 324, 128}, {76, 760, 777, 256}, {9, 90, 91, 512},
            {230, 2300, 2317, 768}};
        for (int i = 0; i < falling.length; i++) {
            int[] row = falling[i];
            due("there is room", kernel.add(11 - i, row[0], row[1], row[2], row[3]), 0);
        }
        due("there is room", kernel.add(12, 1, 10, 200, 1000), 0);
        for (int i = 0; i < falling.length; i++) {
            due("flat", kernel.task(11 - i, FLAT), 1);
            due("flat", kernel.task(11 - i, SOLVED), falling[i][2]);
        }
        due("not flat", kernel.task(12, FLAT), 0);
        due("not flat", kernel.task(12, SOLVED), 11);
        long above = 4055678308039L;
        long below = 40786982849340L;
        rateWords("the last one", kernel, 12, ABOVE, (int) (above & 0xffffff), (int) (above >> 24), 0);
        rateWords("the last one", kernel, 12, BELOW, (int) (below & 0xffffff), (int) (below >> 24), 0);
        total("all that is ALLOWED", kernel, 9, 10);
    }

    void solveLeavesOutLeavingTasks() {
        ElasticKernel kernel = new ElasticKernel();
        kernel.add(1, 1, 2, 4, 1);
        kernel.add(2, 1, 2, 4, 1);
        kernel.add(3, 1, 2, 2, 1);
        loadIs("pressed", kernel, 1, 1, 4, 4);
        kernel.tick(1);
        kernel.leave(3);
        loadIs("full", kernel, 1, 1, 2, 2);
        loadIs("full", kernel, 2, 1, 2, 2);
        total("without the one that leaves", kernel, 1, 1);
    }

    void solvedPeriodThatIsWhole() {
        ElasticKernel kernel = new ElasticKernel();
        kernel.add(1, 2, 4, 8, 1);
        kernel.load(400);
        loadIs("5", kernel, 1, 2, 5, 5);
        kernel.load(250);
        loadIs("8, the LONGEST", kernel, 1, 1, 4, 8);
    }

    void solvedPeriodIsRoundedUp() {
        ElasticKernel kernel = new ElasticKernel();
        kernel.add(1, 2, 4, 8, 1);
        kernel.load(399);
        loadIs("5 and a bit", kernel, 1, 399, 1000, 6);
        kernel.load(401);
        loadIs("5 less a bit", kernel, 1, 401, 1000, 5);
        kernel.load(251);
        loadIs("8 less a bit", kernel, 1, 251, 1000, 8);
    }

    // When a solve comes

    void solveComesWithEachChange() {
        ElasticKernel kernel = new ElasticKernel();
        kernel.add(1, 1, 4, 8, 1);
        due("accepted", kernel.state(SOLVES), 1);
        kernel.add(2, 1, 4, 8, 1);
        due("accepted", kernel.state(SOLVES), 2);
        kernel.tick(1);
        due("come", kernel.state(SOLVES), 2);
        kernel.load(400);
        due("ALLOWED changes", kernel.state(SOLVES), 3);
        kernel.leave(2);
        due("begins to leave", kernel.state(SOLVES), 4);
        kernel.tick(10);
        due("gone", kernel.state(SOLVES), 4);
        due("gone", kernel.state(TASKS), 1);
    }

    void solveComesNotWithARefusedCall() {
        ElasticKernel kernel = new ElasticKernel();
        kernel.add(1, 1, 2, 2, 1);
        kernel.tick(3);
        due("REFUSED", kernel.add(2, 2, 3, 3, 1), NONE);
        due("no id", kernel.add(0, 1, 3, 3, 1), NONE);
        due("REFUSED", kernel.load(499), false);
        due("no number", kernel.load(0), false);
        due("none such", kernel.leave(2), false);
        due("above the COST", kernel.use(1, 2), false);
        throwsAtTick(kernel, 0);
        states("nothing solved, the INSTANT as before", kernel, 3, 1000, 0, 1, 500, 0, 1, 1);
    }

    // The INSTANT

    void instantIsTheClockAtTheLeast() {
        ElasticKernel kernel = new ElasticKernel();
        kernel.add(1, 1, 10, 10, 1);
        due("0", kernel.state(INSTANT), 0);
        kernel.tick(3);
        due("ticks leave it", kernel.state(INSTANT), 0);
        kernel.load(900);
        due("the clock", kernel.state(INSTANT), 3);
    }

    void instantBeforeStaysIfItIsLater() {
        ElasticKernel kernel = new ElasticKernel();
        kernel.add(1, 1, 4, 8, 1);
        kernel.tick(1);
        kernel.load(125);
        due("its end", kernel.state(INSTANT), 4);
        kernel.load(1000);
        due("though nobody waits for it", kernel.state(INSTANT), 4);
        kernel.tick(5);
        kernel.load(999);
        due("the clock is later", kernel.state(INSTANT), 6);
    }

    void instantIsTheLatestEndOfThoseLeaving() {
        ElasticKernel kernel = new ElasticKernel();
        kernel.add(1, 1, 10, 10, 1);
        kernel.add(2, 1, 4, 4, 1);
        kernel.tick(1);
        kernel.leave(1);
        due("the end of 1", kernel.state(INSTANT), 10);
        kernel.leave(2);
        due("that of 2 is earlier", kernel.state(INSTANT), 10);
        kernel.add(3, 1, 4, 8, 1);
        kernel.tick(6);
        due("2 is gone, 1 is not", kernel.state(TASKS), 2);
        due("3 waits", kernel.task(3, PHASE), ANNOUNCED);
        kernel.tick(3);
        due("3 waits", kernel.task(3, PHASE), ANNOUNCED);
        due("3 comes at 10", kernel.tick(1), 3);
        due("its end", kernel.task(3, END), 14);
    }

    void instantWaitsForALongerPeriod() {
        ElasticKernel kernel = new ElasticKernel();
        kernel.add(1, 2, 4, 8, 1);
        kernel.load(399);
        kernel.tick(1);
        due("in force", kernel.task(1, PERIOD), 6);
        kernel.load(333);
        due("longer", kernel.task(1, SOLVED), 7);
        due("its end", kernel.state(INSTANT), 6);
    }

    void instantWaitsNotForTheSamePeriod() {
        ElasticKernel kernel = new ElasticKernel();
        kernel.add(1, 2, 4, 8, 1);
        kernel.load(399);
        kernel.tick(1);
        kernel.load(334);
        due("less load, the same period", kernel.task(1, SOLVED), 6);
        due("the clock", kernel.state(INSTANT), 1);
    }

    void instantWaitsNotForAShorterPeriod() {
        ElasticKernel kernel = new ElasticKernel();
        kernel.add(1, 2, 4, 8, 1);
        kernel.load(399);
        kernel.tick(1);
        kernel.load(401);
        due("shorter", kernel.task(1, SOLVED), 5);
        due("the clock", kernel.state(INSTANT), 1);
    }

    void instantWaitsNotForAnnouncedTasks() {
        ElasticKernel kernel = new ElasticKernel();
        kernel.tick(3);
        kernel.add(1, 2, 4, 8, 1);
        kernel.add(2, 2, 4, 8, 1);
        kernel.load(600);
        due("longer than before", kernel.task(1, SOLVED), 7);
        due("the clock", kernel.state(INSTANT), 3);
    }

    void instantWaitsForAnEndThatIsTheClock() {
        ElasticKernel kernel = new ElasticKernel();
        kernel.add(1, 2, 4, 8, 1);
        kernel.tick(4);
        kernel.load(250);
        due("longer", kernel.task(1, SOLVED), 8);
        due("the clock", kernel.state(INSTANT), 4);
        kernel.tick(1);
        due("from now on", kernel.task(1, END), 12);
    }

    // Fractions: those of rate() and total() by themselves are with their promises

    void fractionHasNoCommonFactors() {
        ElasticKernel kernel = new ElasticKernel();
        kernel.add(1, 6, 8, 16, 1);
        rate("6 / 8", kernel, 1, 3, 4);
        kernel = new ElasticKernel();
        kernel.add(1, 20000, 20000, 20000, 1);
        rate("20000 / 20000", kernel, 1, 1, 1);
        kernel = new ElasticKernel();
        kernel.add(1, 1, 6, 6, 1);
        kernel.add(2, 1, 3, 3, 1);
        total("1/6 + 1/3", kernel, 1, 2);
    }

    void fractionThatJustFillsAWord() {
        ElasticKernel kernel = new ElasticKernel();
        kernel.add(1, 1, 4095, 4095, 1);
        kernel.add(2, 1, 4097, 4097, 1);
        totalWords("8192", kernel, ABOVE, 8192, 0);
        totalWords("2^24 - 1", kernel, BELOW, 16777215, 0, 0);
    }

    void fractionThatJustTakesASecondWord() {
        ElasticKernel kernel = new ElasticKernel();
        kernel.add(1, 8192, 16384, 20000, 511);
        kernel.add(2, 8193, 16384, 20000, 513);
        rateWords("1/2 - 513 / 2^24", kernel, 1, ABOVE, 8388095, 0, 0);
        rateWords("2^24", kernel, 1, BELOW, 0, 1, 0);
        rateWords("8193 / 2^14 - 511 / 2^24", kernel, 2, ABOVE, 8389121, 0, 0);
        rateWords("2^24", kernel, 2, BELOW, 0, 1, 0);
        kernel = new ElasticKernel();
        kernel.add(1, 1, 4096, 4096, 1);
        kernel.add(2, 1, 4097, 4097, 1);
        totalWords("8193", kernel, ABOVE, 8193, 0);
        totalWords("2^24 + 2^12", kernel, BELOW, 4096, 1, 0);
    }

    /** Great primes all over, so that hardly anything falls out. */
    void fractionsOfTheMostWords() {
        int[] shortest = {18899, 18869, 18859, 18839, 18803, 18797, 18793, 18787, 18773, 18757, 18749, 18743};
        int[] stiffness = {997, 991, 983, 977, 971, 967, 953, 947, 941, 937, 929, 919};
        ElasticKernel kernel = loadsFitTheTerms(shortest, stiffness, 991);
        for (int id = 1; id <= 12; id++) {
            due("more than ten words", wholeRate(kernel, id, BELOW).bitLength() > 240, true);
        }
    }

    void fractionsWithManyCommonFactors() {
        int[] shortest = {18900, 18880, 18864, 18840, 18816, 18810, 18800, 18792, 18780, 18768, 18750, 18720};
        int[] stiffness = {1000, 990, 984, 980, 975, 972, 968, 960, 945, 936, 924, 900};
        for (int allowed = 990; allowed <= 1000; allowed++) {
            loadsFitTheTerms(shortest, stiffness, allowed);
        }
    }

    /** Puts the loads back into the terms, with the library's big numbers. */
    private ElasticKernel loadsFitTheTerms(int[] shortest, int[] stiffness, int allowed) {
        ElasticKernel kernel = new ElasticKernel();
        for (int i = 0; i < shortest.length; i++) {
            due("there is room", kernel.add(i + 1, 1600, shortest[i], 20000, stiffness[i]), 0);
        }
        kernel.load(allowed);
        BigInteger[] sum = fraction(0, 1);
        BigInteger[] v = null;
        for (int i = 0; i < shortest.length; i++) {
            BigInteger above = wholeRate(kernel, i + 1, ABOVE);
            BigInteger below = wholeRate(kernel, i + 1, BELOW);
            due("no common factors", above.gcd(below).equals(BigInteger.ONE), true);
            due("not flat", kernel.task(i + 1, FLAT), 0);
            sum = plus(sum, above, below);
            BigInteger[] given = plus(fraction(1600, shortest[i]), above.negate(), below);
            given[0] = given[0].multiply(BigInteger.valueOf(stiffness[i]));
            v = v == null ? given : v;
            due("one v for all", isSame(v, given), true);
        }
        due("they come to what is ALLOWED", isSame(sum, fraction(allowed, 1000)), true);
        return kernel;
    }

    private static BigInteger[] fraction(int above, int below) {
        return new BigInteger[] {BigInteger.valueOf(above), BigInteger.valueOf(below)};
    }

    private static BigInteger wholeRate(ElasticKernel kernel, int id, int part) {
        BigInteger whole = BigInteger.ZERO;
        for (int k = 15; k >= 0; k--) {
            whole = whole.shiftLeft(24).add(BigInteger.valueOf(kernel.rate(id, part, k)));
        }
        return whole;
    }

    private static BigInteger[] plus(BigInteger[] fraction, BigInteger above, BigInteger below) {
        BigInteger newAbove = fraction[0].multiply(below).add(above.multiply(fraction[1]));
        return new BigInteger[] {newAbove, fraction[1].multiply(below)};
    }

    private static boolean isSame(BigInteger[] one, BigInteger[] other) {
        return one[0].multiply(other[1]).equals(other[0].multiply(one[1]));
    }

    private static ElasticKernel softPair() {
        ElasticKernel kernel = new ElasticKernel();
        kernel.add(1, 1, 2, 4, 2);
        kernel.add(2, 2, 4, 20, 2);
        return kernel;
    }

    private void loadIs(String when, ElasticKernel kernel, int id, int above, int below, int period) {
        rate(when, kernel, id, above, below);
        due(when + ", solved period of " + id, kernel.task(id, SOLVED), period);
    }
}
