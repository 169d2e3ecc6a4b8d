import java.math.BigInteger;
import java.util.ArrayList;
import java.util.Collections;
import java.util.List;
import java.util.Random;
import java.util.TreeMap;

/**
 * Long runs of calls, the same on ElasticKernel and on a slow model that follows the document word
 * by word: tick for tick, with the library's big numbers. After each call every answer is compared.
 */
public final class ModelTest {
    private static final int CALLS = 512;
    private static final int WORDS_ASKED = 18;

    private static long compared = 0;
    private static int wrong = 0;
    private static int longestFraction = 0;
    private static int mostRefused = 0;
    private static int mostMissed = 0;
    private static int pressedFlat = 0;

    public static void main(String[] args) {
        for (int seed = 1; seed <= 60 && wrong == 0; seed++) {
            run(seed, Kind.values()[seed % Kind.values().length]);
        }
        runTheLongestFractions();
        System.out.println(compared + " answers compared, the longest fraction has " + longestFraction
                + " bits, " + mostRefused + " runs with refusals, " + pressedFlat + " loads pressed flat, most missed "
                + mostMissed);
        if (longestFraction < 290 || mostRefused == 0 || pressedFlat == 0) {
            System.out.println("the runs are too tame to show anything");
            wrong++;
        }
        System.out.println(wrong == 0 ? "all answers are as due" : wrong + " answers are not as due");
        if (wrong != 0) {
            System.exit(1);
        }
    }

    /** What the drawn tasks look like. */
    private enum Kind { SMALL, TIGHT, MIXED, BIG }

    private static void run(int seed, Kind kind) {
        Random random = new Random(seed);
        ElasticKernel kernel = new ElasticKernel();
        Model model = new Model();
        compareAll("seed " + seed + " at first", kernel, model, random);
        for (int call = 0; call < CALLS && wrong == 0; call++) {
            String text = "seed " + seed + " call " + call + ": " + oneCall(kernel, model, random, kind);
            compareAll(text, kernel, model, random);
        }
        mostRefused += model.refusedAt > 0 ? 1 : 0;
        mostMissed = Math.max(mostMissed, model.missed);
    }

    private static String oneCall(ElasticKernel kernel, Model model, Random random, Kind kind) {
        int id = drawId(random, kind);
        int choice = random.nextInt(20);
        if (choice < 6) {
            return addOne(kernel, model, random, kind, id);
        }
        if (choice < 8) {
            String text = "leave(" + id + ")";
            due(text, kernel.leave(id) ? 1 : 0, model.leave(id) ? 1 : 0);
            return text;
        }
        if (choice < 9) {
            int thousandths = random.nextInt(3) == 0 ? random.nextInt(1010) - 4 : 1000 - random.nextInt(200);
            String text = "load(" + thousandths + ")";
            due(text, kernel.load(thousandths) ? 1 : 0, model.load(thousandths) ? 1 : 0);
            return text;
        }
        if (choice < 12) {
            int ticks = random.nextInt(random.nextBoolean() ? 4 : 300) - 1;
            String text = "use(" + id + ", " + ticks + ")";
            due(text, kernel.use(id, ticks) ? 1 : 0, model.use(id, ticks) ? 1 : 0);
            return text;
        }
        int n = drawTicks(random, kind);
        String text = "tick(" + n + ")";
        due(text, kernel.tick(n), model.tick(n));
        return text;
    }

    private static int drawId(Random random, Kind kind) {
        return kind == Kind.MIXED ? 1 + random.nextInt(99) : 1 + random.nextInt(16);
    }

    private static int drawTicks(Random random, Kind kind) {
        int scale = random.nextInt(10);
        if (scale < 6) {
            return 1 + random.nextInt(4);
        }
        if (scale < 9) {
            return 1 + random.nextInt(60);
        }
        return 1 + random.nextInt(kind == Kind.BIG ? 5000 : 800);
    }

    private static String addOne(ElasticKernel kernel, Model model, Random random, Kind kind, int id) {
        int top = kind == Kind.BIG ? 20001 : kind == Kind.MIXED ? 400 : 24;
        int shortest = 1 + random.nextInt(top);
        int longest = shortest + random.nextInt(kind == Kind.TIGHT ? 3 : top * 3);
        int cost = 1 + random.nextInt(kind == Kind.TIGHT ? Math.max(1, shortest / 4) : shortest);
        int stiffness = 1 + random.nextInt(kind == Kind.SMALL ? 4 : 1000);
        if (random.nextInt(40) == 0) {
            cost = random.nextInt(3) - 1;
        }
        String text = "add(" + id + ", " + cost + ", " + shortest + ", " + longest + ", " + stiffness + ")";
        due(text, kernel.add(id, cost, shortest, longest, stiffness), model.add(id, cost, shortest, longest, stiffness));
        return text;
    }

    /** Twelve great primes as periods and as stiffnesses, so that nothing falls out of the fractions. */
    private static void runTheLongestFractions() {
        ElasticKernel kernel = new ElasticKernel();
        Model model = new Model();
        Random random = new Random(7);
        due("load(997)", kernel.load(997) ? 1 : 0, model.load(997) ? 1 : 0);
        int shortest = 18900;
        int stiffness = 1000;
        for (int id = 12; id >= 1; id--) {
            shortest = primeBelow(shortest);
            stiffness = primeBelow(stiffness);
            String text = "add(" + id + ", 1601, " + shortest + ", 20000, " + stiffness + ")";
            due(text, kernel.add(id, 1601, shortest, 20000, stiffness), model.add(id, 1601, shortest, 20000, stiffness));
            compareAll(text, kernel, model, random);
        }
        for (int thousandths = 996; thousandths >= 955; thousandths--) {
            String text = "load(" + thousandths + ")";
            due(text, kernel.load(thousandths) ? 1 : 0, model.load(thousandths) ? 1 : 0);
            compareAll(text, kernel, model, random);
        }
    }

    private static int primeBelow(int bound) {
        int number = bound - 1;
        while (!BigInteger.valueOf(number).isProbablePrime(50)) {
            number--;
        }
        return number;
    }

    private static void compareAll(String after, ElasticKernel kernel, Model model, Random random) {
        for (int what = -1; what <= 8; what++) {
            due(after + ", then state(" + what + ")", kernel.state(what), model.state(what));
        }
        List<Integer> ids = new ArrayList<>(model.tasks.keySet());
        ids.add(random.nextInt(101));
        for (int id : ids) {
            for (int what = -1; what <= 8; what++) {
                due(after + ", then task(" + id + ", " + what + ")", kernel.task(id, what), model.task(id, what));
            }
            pressedFlat += model.task(id, 7) == 1 ? 1 : 0;
        }
        for (int part = -1; part <= 2; part++) {
            for (int k = -1; k < WORDS_ASKED; k++) {
                due(after + ", then total(" + part + ", " + k + ")", kernel.total(part, k), model.total(part, k));
                for (int id : ids) {
                    due(after + ", then rate(" + id + ", " + part + ", " + k + ")", kernel.rate(id, part, k),
                            model.rate(id, part, k));
                }
            }
        }
    }

    private static void due(String call, int got, int want) {
        compared++;
        if (got != want) {
            wrong++;
            if (wrong <= 20) {
                System.out.println(call + " answered " + got + ", due is " + want);
            }
        }
    }

    /** A fraction of the library's big numbers, always without common factors. */
    private static final class Ratio implements Comparable<Ratio> {
        static final Ratio ZERO = new Ratio(BigInteger.ZERO, BigInteger.ONE);
        final BigInteger above;
        final BigInteger below;

        Ratio(BigInteger above, BigInteger below) {
            BigInteger shared = above.gcd(below).multiply(BigInteger.valueOf(below.signum()));
            this.above = above.divide(shared);
            this.below = below.divide(shared);
        }

        static Ratio of(long above, long below) {
            return new Ratio(BigInteger.valueOf(above), BigInteger.valueOf(below));
        }

        Ratio plus(Ratio other) {
            return new Ratio(above.multiply(other.below).add(other.above.multiply(below)), below.multiply(other.below));
        }

        Ratio minus(Ratio other) {
            return plus(new Ratio(other.above.negate(), other.below));
        }

        Ratio times(Ratio other) {
            return new Ratio(above.multiply(other.above), below.multiply(other.below));
        }

        Ratio over(Ratio other) {
            return new Ratio(above.multiply(other.below), below.multiply(other.above));
        }

        int floor() {
            BigInteger[] parts = above.divideAndRemainder(below);
            return parts[0].intValueExact() - (parts[1].signum() < 0 ? 1 : 0);
        }

        int ceiling() {
            return -new Ratio(above.negate(), below).floor();
        }

        int word(int part, int k) {
            if (part < 0 || part > 1 || k < 0) {
                return -1;
            }
            BigInteger whole = part == 0 ? above : below;
            longestFraction = Math.max(longestFraction, whole.bitLength());
            return whole.shiftRight(24 * k).intValue() & 0xffffff;
        }

        @Override
        public int compareTo(Ratio other) {
            return above.multiply(other.below).compareTo(other.above.multiply(below));
        }
    }

    private static final class ModelTask {
        int id;
        int cost;
        int stiffness;
        Ratio full;
        Ratio least;
        Ratio load;
        int phase;
        int period;
        int solved;
        int end;
        int deadline;
        int needs;
        int told = -1;
        int ends;
        int latestEnd;

        Ratio pressedBy(Ratio v) {
            Ratio given = full.minus(v.over(Ratio.of(stiffness, 1)));
            return given.compareTo(least) > 0 ? given : least;
        }

        Ratio flatAt() {
            return full.minus(least).times(Ratio.of(stiffness, 1));
        }
    }

    private static final class Model {
        final TreeMap<Integer, ModelTask> tasks = new TreeMap<>();
        int clock = 0;
        int allowed = 1000;
        int missed = 0;
        int solves = 0;
        int instant = 0;
        int refusedAt = 0;

        int add(int id, int cost, int shortest, int longest, int stiffness) {
            boolean isGood = id >= 1 && id <= 99 && cost >= 1 && cost <= 20000 && shortest >= 1 && shortest <= 20000
                    && longest >= 1 && longest <= 20000 && cost <= shortest && shortest <= longest && stiffness >= 1
                    && stiffness <= 1000;
            if (!isGood || tasks.containsKey(id) || tasks.size() >= 12) {
                return -1;
            }
            ModelTask task = new ModelTask();
            task.id = id;
            task.cost = cost;
            task.stiffness = stiffness;
            task.full = Ratio.of(cost, shortest);
            task.least = Ratio.of(cost, longest);
            tasks.put(id, task);
            if (refuses(allowed)) {
                tasks.remove(id);
                return -1;
            }
            solve();
            return instant - clock;
        }

        boolean leave(int id) {
            ModelTask task = tasks.get(id);
            if (task == null || task.phase == 2) {
                return false;
            }
            if (task.phase == 0) {
                tasks.remove(id);
            }
            task.phase = 2;
            solve();
            return true;
        }

        boolean load(int thousandths) {
            if (thousandths < 1 || thousandths > 1000 || refuses(thousandths)) {
                return false;
            }
            allowed = thousandths;
            solve();
            return true;
        }

        boolean refuses(int thousandths) {
            Ratio sum = Ratio.ZERO;
            for (ModelTask task : tasks.values()) {
                sum = sum.plus(task.least);
                if (sum.compareTo(Ratio.of(thousandths, 1000)) > 0) {
                    refusedAt = task.id;
                    return true;
                }
            }
            return false;
        }

        boolean use(int id, int ticks) {
            ModelTask task = tasks.get(id);
            if (task == null || ticks < 0 || ticks > task.cost) {
                return false;
            }
            task.told = ticks;
            return true;
        }

        List<ModelTask> solvedOnes() {
            List<ModelTask> list = new ArrayList<>();
            for (ModelTask task : tasks.values()) {
                if (task.phase != 2) {
                    list.add(task);
                }
            }
            return list;
        }

        void solve() {
            solves++;
            List<ModelTask> list = solvedOnes();
            Ratio v = findV(list);
            for (ModelTask task : list) {
                task.load = task.pressedBy(v);
                task.solved = Ratio.of(task.cost, 1).over(task.load).ceiling();
            }
            if (v.compareTo(Ratio.ZERO) > 0 && sumOfLoads().compareTo(Ratio.of(allowed, 1000)) != 0) {
                throw new AssertionError("the model itself is wrong");
            }
            instant = Math.max(instant, clock);
            for (ModelTask task : tasks.values()) {
                if (task.phase == 2 || task.phase == 1 && task.solved > task.period) {
                    instant = Math.max(instant, task.end);
                }
            }
        }

        /** Goes along the sum of the loads, which bends where a task becomes flat. */
        Ratio findV(List<ModelTask> list) {
            Ratio goal = Ratio.of(allowed, 1000);
            if (sumAt(list, Ratio.ZERO).compareTo(goal) <= 0) {
                return Ratio.ZERO;
            }
            List<Ratio> bends = new ArrayList<>();
            for (ModelTask task : list) {
                bends.add(task.flatAt());
            }
            Collections.sort(bends);
            Ratio before = Ratio.ZERO;
            for (Ratio bend : bends) {
                Ratio high = sumAt(list, before);
                Ratio low = sumAt(list, bend);
                if (low.compareTo(goal) <= 0) {
                    return before.plus(bend.minus(before).times(high.minus(goal)).over(high.minus(low)));
                }
                before = bend;
            }
            throw new AssertionError("the model itself is wrong");
        }

        Ratio sumAt(List<ModelTask> list, Ratio v) {
            Ratio sum = Ratio.ZERO;
            for (ModelTask task : list) {
                sum = sum.plus(task.pressedBy(v));
            }
            return sum;
        }

        Ratio sumOfLoads() {
            Ratio sum = Ratio.ZERO;
            for (ModelTask task : solvedOnes()) {
                sum = sum.plus(task.load);
            }
            return sum;
        }

        int tick(int n) {
            int last = 0;
            for (int i = 0; i < n; i++) {
                last = oneTick(clock);
            }
            return last;
        }

        int oneTick(int t) {
            for (ModelTask task : new ArrayList<>(tasks.values())) {
                if (task.phase == 2 && task.end == t) {
                    missed += task.needs > 0 ? 1 : 0;
                    tasks.remove(task.id);
                }
            }
            List<ModelTask> turning = new ArrayList<>();
            for (ModelTask task : tasks.values()) {
                if (task.phase == 0 && t >= instant) {
                    task.phase = 1;
                    task.period = task.solved;
                    turning.add(task);
                } else if (task.phase == 1 && task.end == t) {
                    if (task.solved > task.period || t >= instant) {
                        task.period = task.solved;
                    }
                    turning.add(task);
                }
            }
            for (ModelTask task : turning) {
                missed += task.needs > 0 ? 1 : 0;
                task.end = t + task.period;
                task.deadline = t + task.period;
                task.needs = task.told >= 0 ? task.told : task.cost;
                task.told = -1;
                if (task.needs == 0) {
                    task.ends++;
                    task.latestEnd = t;
                }
            }
            int last = giveTick(t);
            clock = t + 1;
            return last;
        }

        int giveTick(int t) {
            ModelTask chosen = null;
            for (ModelTask task : tasks.values()) {
                if (task.needs > 0 && (chosen == null || task.deadline < chosen.deadline
                        || task.deadline == chosen.deadline && task.id < chosen.id)) {
                    chosen = task;
                }
            }
            if (chosen == null) {
                return 0;
            }
            chosen.needs--;
            if (chosen.needs == 0) {
                chosen.ends++;
                chosen.latestEnd = t + 1;
            }
            return chosen.id;
        }

        int task(int id, int what) {
            ModelTask task = tasks.get(id);
            if (task == null || what < 0 || what > 7) {
                return -1;
            }
            boolean isFlat = task.phase != 2 && task.load.compareTo(task.least) == 0
                    && task.least.compareTo(task.full) != 0;
            int[] answers = {task.phase, task.period, task.phase == 2 ? task.period : task.solved, task.end, task.needs,
                task.ends, task.latestEnd, isFlat ? 1 : 0};
            return answers[what];
        }

        int rate(int id, int part, int k) {
            ModelTask task = tasks.get(id);
            return task == null || task.phase == 2 ? -1 : task.load.word(part, k);
        }

        int total(int part, int k) {
            return sumOfLoads().word(part, k);
        }

        int state(int what) {
            if (what < 0 || what > 7) {
                return -1;
            }
            int unused = Ratio.of(allowed, 1).minus(Ratio.of(1000, 1).times(sumOfLoads())).floor();
            int[] answers = {clock, allowed, missed, solves, unused, instant, tasks.size(), refusedAt};
            return answers[what];
        }
    }
}
