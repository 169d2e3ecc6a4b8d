/**
 * Periodic tasks that give way like springs: when all at their shortest periods would be too much,
 * their loads are pressed together in exact fractions; jobs run by the earliest deadline.
 */
public final class ElasticKernel {
    public static final int NONE = -1;

    private static final int MOST_TASKS = 12;
    private static final int MOST_ID = 99;
    private static final int MOST_PERIOD = 20000;
    private static final int MOST_STIFFNESS = 1000;
    private static final int MOST_TICKS = 5000;
    private static final int THOUSAND = 1000;

    // The numbers are those that task(id, 0) answers.
    private static final int ANNOUNCED = 0;
    private static final int IN_FORCE = 1;
    private static final int LEAVING = 2;

    private final Roster roster;
    private final Springs springs;
    private int clock;
    private int allowed;
    private int missed;
    private int solves;
    private int instant;
    private int refusedAt;

    public ElasticKernel() {
        roster = new Roster();
        springs = new Springs();
        allowed = THOUSAND;
    }

    public int add(int id, int cost, int shortest, int longest, int stiffness) {
        if (!isWithin(id, MOST_ID) || !arePeriods(cost, shortest, longest)
                || !isWithin(stiffness, MOST_STIFFNESS)) {
            return NONE;
        }
        Task newcomer = roster.enter(id);
        if (newcomer == null) {
            return NONE;
        }
        newcomer.announce(cost, shortest, longest, stiffness);
        if (isRefused(allowed)) {
            roster.drop(newcomer);
            return NONE;
        }
        solve();
        return instant - clock;
    }

    public boolean leave(int id) {
        Task goer = roster.find(id);
        if (goer == null || goer.phase == LEAVING) {
            return false;
        }
        if (goer.phase == ANNOUNCED) {
            roster.drop(goer);
        } else {
            goer.phase = LEAVING;
        }
        solve();
        return true;
    }

    public boolean load(int thousandths) {
        if (!isWithin(thousandths, THOUSAND) || isRefused(thousandths)) {
            return false;
        }
        allowed = thousandths;
        solve();
        return true;
    }

    public boolean use(int id, int ticks) {
        Task user = roster.find(id);
        if (user == null || ticks < 0 || ticks > user.cost) {
            return false;
        }
        user.told = ticks;
        return true;
    }

    public int tick(int n) throws IllegalArgumentException {
        if (!isWithin(n, MOST_TICKS)) {
            throw new IllegalArgumentException("n is not 1 .. 5000");
        }
        int last = 0;
        int left = n;
        while (left > 0) {
            beginTick();
            Task runner = mostUrgent();
            // Until the next turn of a period or end of a job, every tick goes as this one does.
            int span = Math.max(1, Math.min(left, ticksAlike(runner)));
            clock += span;
            left -= span;
            last = runner == null ? 0 : runner.id;
            if (runner != null) {
                runner.work(span, clock);
            }
        }
        return last;
    }

    public int task(int id, int what) {
        Task asked = roster.find(id);
        if (asked == null) {
            return NONE;
        }
        switch (what) {
            case 0:
                return asked.phase;
            case 1:
                return asked.period;
            case 2:
                return asked.phase == LEAVING ? asked.period : asked.solvedPeriod;
            case 3:
                return asked.end;
            case 4:
                return asked.needs;
            case 5:
                return asked.ends;
            case 6:
                return asked.latestEnd;
            case 7:
                return asked.isPressedFlat() ? 1 : 0;
            default:
                return NONE;
        }
    }

    public int rate(int id, int part, int k) {
        Task asked = roster.find(id);
        if (asked == null || asked.phase == LEAVING) {
            return NONE;
        }
        return wordOf(asked.solvedLoad, part, k);
    }

    public int total(int part, int k) {
        return wordOf(springs.allLoads, part, k);
    }

    public int state(int what) {
        switch (what) {
            case 0:
                return clock;
            case 1:
                return allowed;
            case 2:
                return missed;
            case 3:
                return solves;
            case 4:
                return allowed - springs.thousandthsInUse();
            case 5:
                return instant;
            case 6:
                return roster.size;
            case 7:
                return refusedAt;
            default:
                return NONE;
        }
    }

    private static boolean isWithin(int number, int most) {
        return number >= 1 && number <= most;
    }

    private static boolean arePeriods(int cost, int shortest, int longest) {
        return cost >= 1 && cost <= shortest && shortest <= longest && longest <= MOST_PERIOD;
    }

    private static int wordOf(Fraction fraction, int part, int k) {
        if (part < 0 || part > 1 || k < 0) {
            return NONE;
        }
        return part == 0 ? fraction.above.word(k) : fraction.below.word(k);
    }

    private boolean isRefused(int thousandths) {
        int culprit = springs.firstTooMuch(roster, thousandths);
        if (culprit == 0) {
            return false;
        }
        refusedAt = culprit;
        return true;
    }

    private void solve() {
        solves++;
        if (springs.haveRoom(roster, allowed)) {
            springs.relax();
        } else {
            springs.press(roster, allowed);
        }
        instant = Math.max(instant, clock);
        for (int i = 0; i < roster.size; i++) {
            Task each = roster.row[i];
            if (each.isSolved()) {
                springs.setLoad(each);
            }
            if (each.holdsUpChange()) {
                instant = Math.max(instant, each.end);
            }
        }
    }

    private void beginTick() {
        dismissLeavers();
        boolean isDue = clock >= instant;
        for (int i = 0; i < roster.size; i++) {
            Task each = roster.row[i];
            boolean comes = each.phase == ANNOUNCED && isDue;
            if (comes || each.phase == IN_FORCE && each.end == clock) {
                countIfLate(each);
                each.release(clock, isDue);
            }
        }
    }

    private void dismissLeavers() {
        // Backwards, since who is dropped moves those behind it.
        for (int i = roster.size - 1; i >= 0; i--) {
            Task each = roster.row[i];
            if (each.phase == LEAVING && each.end == clock) {
                countIfLate(each);
                roster.drop(each);
            }
        }
    }

    private void countIfLate(Task holder) {
        if (holder.needs > 0) {
            missed++;
        }
    }

    private Task mostUrgent() {
        Task best = null;
        for (int i = 0; i < roster.size; i++) {
            Task each = roster.row[i];
            // The row goes by ids: of equal deadlines the first one stays.
            if (each.needs > 0 && (best == null || each.end < best.end)) {
                best = each;
            }
        }
        return best;
    }

    private int ticksAlike(Task runner) {
        int fewest = runner == null ? MOST_TICKS : runner.needs;
        for (int i = 0; i < roster.size; i++) {
            Task each = roster.row[i];
            int turn = each.phase == ANNOUNCED ? instant : each.end;
            fewest = Math.min(fewest, turn - clock);
        }
        return fewest;
    }

    /** A task with its period in force and its job. */
    private static final class Task {
        private int id;
        private int cost;
        private int shortest;
        private int longest;
        private int stiffness;
        private int phase;
        private int period;
        private int solvedPeriod;
        private int end;
        private int needs;
        private int told;
        private int ends;
        private int latestEnd;
        private boolean isPinned;
        private final Fraction solvedLoad;

        Task() {
            solvedLoad = new Fraction();
        }

        /** Sets every field but the id and what a solve sets: the object may have been another task. */
        void announce(int newCost, int newShortest, int newLongest, int newStiffness) {
            cost = newCost;
            shortest = newShortest;
            longest = newLongest;
            stiffness = newStiffness;
            phase = ANNOUNCED;
            period = 0;
            end = 0;
            needs = 0;
            told = NONE;
            ends = 0;
            latestEnd = 0;
        }

        boolean isSolved() {
            return phase != LEAVING;
        }

        boolean holdsUpChange() {
            return phase == LEAVING || phase == IN_FORCE && solvedPeriod > period;
        }

        /** Never of one that is LEAVING: no solve gives it a load, what stands here is an old one. */
        boolean isPressedFlat() {
            return isSolved() && shortest != longest && solvedLoad.compare(cost, longest) == 0;
        }

        void release(int now, boolean mayShorten) {
            if (mayShorten || solvedPeriod > period) {
                period = solvedPeriod;
            }
            phase = IN_FORCE;
            end = now + period;
            needs = told == NONE ? cost : told;
            told = NONE;
            if (needs == 0) {
                finish(now);
            }
        }

        void work(int ticks, int now) {
            needs -= ticks;
            if (needs == 0) {
                finish(now);
            }
        }

        private void finish(int now) {
            ends++;
            latestEnd = now;
        }
    }

    /** The tasks that are there, by their ids; the objects behind them wait to be used again. */
    private static final class Roster {
        private final Task[] row;
        private int size;

        Roster() {
            row = new Task[MOST_TASKS];
            for (int i = 0; i < MOST_TASKS; i++) {
                row[i] = new Task();
            }
        }

        Task find(int id) {
            for (int i = 0; i < size; i++) {
                if (row[i].id == id) {
                    return row[i];
                }
            }
            return null;
        }

        /** Null if there is no place, or the id has one. */
        Task enter(int id) {
            if (size >= MOST_TASKS || find(id) != null) {
                return null;
            }
            Task newcomer = row[size];
            int place = size;
            while (place > 0 && row[place - 1].id > id) {
                row[place] = row[place - 1];
                place--;
            }
            row[place] = newcomer;
            newcomer.id = id;
            size++;
            return newcomer;
        }

        void drop(Task goer) {
            int kept = 0;
            for (int i = 0; i < size; i++) {
                if (row[i] != goer) {
                    row[kept] = row[i];
                    kept++;
                }
            }
            if (kept < size) {
                row[kept] = goer;
                size = kept;
            }
        }
    }

    /** Finds the loads. */
    private static final class Springs {
        private final Fraction allLoads;
        private final Fraction sum;
        private final Fraction softness;
        private final Fraction push;
        private final Divider divider;

        Springs() {
            allLoads = new Fraction();
            sum = new Fraction();
            softness = new Fraction();
            push = new Fraction();
            divider = new Divider();
        }

        /** The id with which the least loads come to more than is allowed, 0 if they do not. */
        int firstTooMuch(Roster roster, int thousandths) {
            sum.set(0, 1);
            for (int i = 0; i < roster.size; i++) {
                Task each = roster.row[i];
                sum.join(1, each.cost, each.longest);
                if (sum.compare(thousandths, THOUSAND) > 0) {
                    return each.id;
                }
            }
            return 0;
        }

        int thousandthsInUse() {
            return divider.ratioUp(allLoads.above, THOUSAND, allLoads.below);
        }

        /** Whether all full loads, which are added up then, come to no more than is allowed. */
        boolean haveRoom(Roster roster, int thousandths) {
            unpin(roster);
            addUp(roster);
            return sum.compare(thousandths, THOUSAND) <= 0;
        }

        /** Lets all have their full loads; only where these have just been added up. */
        void relax() {
            allLoads.copy(sum);
            push.set(0, 1);
        }

        /**
         * Finds the push, and who is pinned; only for loads that have no room and no pin yet.
         *
         * Who is pinned at its least load stays so: each round's push is no greater than the one
         * sought, so that whoever it presses flat lies flat in the end too. At least one task is
         * never pinned, as the least loads of all come to no more than is allowed.
         */
        void press(Roster roster, int thousandths) {
            allLoads.set(thousandths, THOUSAND);
            boolean isSettled = false;
            for (int round = 0; round < MOST_TASKS && !isSettled; round++) {
                addUp(roster);
                sum.join(1, -thousandths, THOUSAND);
                addUpSoftness(roster);
                push.setRatio(sum, softness);
                isSettled = !pinPressed(roster);
            }
            divider.reduce(push);
        }

        private void unpin(Roster roster) {
            for (int i = 0; i < roster.size; i++) {
                roster.row[i].isPinned = false;
            }
        }

        private void addUp(Roster roster) {
            sum.set(0, 1);
            for (int i = 0; i < roster.size; i++) {
                Task each = roster.row[i];
                if (each.isSolved()) {
                    sum.join(1, each.cost, each.isPinned ? each.longest : each.shortest);
                }
            }
        }

        private void addUpSoftness(Roster roster) {
            softness.set(0, 1);
            for (int i = 0; i < roster.size; i++) {
                Task each = roster.row[i];
                if (each.isSolved() && !each.isPinned) {
                    softness.join(1, 1, each.stiffness);
                }
            }
        }

        /** Pins who would fall below its least load; answers whether there was one. */
        private boolean pinPressed(Roster roster) {
            boolean isAny = false;
            for (int i = 0; i < roster.size; i++) {
                Task each = roster.row[i];
                if (each.isSolved() && !each.isPinned && isTooMuchFor(each)) {
                    each.isPinned = true;
                    isAny = true;
                }
            }
            return isAny;
        }

        /** Whether the push is more than (full - least) * stiffness. */
        private boolean isTooMuchFor(Task each) {
            long room = (long) each.cost * (each.longest - each.shortest) * each.stiffness;
            return push.compare(room, (long) each.shortest * each.longest) > 0;
        }

        void setLoad(Task each) {
            Fraction found = each.solvedLoad;
            if (each.isPinned) {
                found.set(each.cost, each.longest);
            } else {
                found.copy(push);
                found.divideBy(each.stiffness);
                found.join(-1, each.cost, each.shortest);
            }
            each.solvedPeriod = divider.ratioUp(found.below, each.cost, found.above);
        }
    }

    /** A fraction that is not negative, without common factors but behind setRatio. */
    private static final class Fraction {
        private final Natural above;
        private final Natural below;

        Fraction() {
            above = new Natural();
            below = new Natural();
            below.set(1);
        }

        void set(int newAbove, int newBelow) {
            int shared = commonFactor(newAbove, newBelow);
            above.set(newAbove / shared);
            below.set(newBelow / shared);
        }

        void copy(Fraction other) {
            above.copy(other.above);
            below.copy(other.below);
        }

        void setRatio(Fraction dividend, Fraction divisor) {
            above.setProduct(dividend.above, divisor.below);
            below.setProduct(dividend.below, divisor.above);
        }

        void divideBy(int divisor) {
            int shared = commonFactor(divisor, above.remainder(divisor));
            above.divideExactly(shared);
            below.multiply(divisor / shared);
        }

        int compare(long itsAbove, long itsBelow) {
            return Natural.compareProducts(above, itsBelow, below, itsAbove);
        }

        /**
         * Adds the other one to this one with the sign; only where that is not negative.
         *
         * Both being without common factors, all that their sum may have of them lies in what the
         * two share below the line: so no common factor of big numbers is sought.
         */
        void join(int sign, int itsAbove, int itsBelow) {
            int cut = commonFactor(Math.abs(itsAbove), itsBelow);
            int top = itsAbove / cut;
            int bottom = itsBelow / cut;
            int shared = commonFactor(bottom, below.remainder(bottom));
            below.divideExactly(shared);
            above.weigh((long) sign * (bottom / shared), below, top);
            int common = commonFactor(shared, above.remainder(shared));
            above.divideExactly(common);
            below.multiply(bottom / common);
        }

        /** At least 1, so that it may always divide. */
        private static int commonFactor(int one, int other) {
            int greater = one;
            int smaller = other;
            for (int step = 0; step < Natural.MOST_BITS && smaller != 0; step++) {
                int rest = greater % smaller;
                greater = smaller;
                smaller = rest;
            }
            return Math.max(1, greater);
        }
    }

    /** Divides big numbers by big ones; keeps the rows that this needs. */
    private static final class Divider {
        private final Natural quotient;
        private final Natural shifted;
        private final Natural first;
        private final Natural second;

        Divider() {
            quotient = new Natural();
            shifted = new Natural();
            first = new Natural();
            second = new Natural();
        }

        /** The dividend times the factor by the divisor, rounded up; it must fit a word. */
        int ratioUp(Natural dividend, int factor, Natural divisor) {
            first.copy(dividend);
            first.multiply(factor);
            divide(first, divisor);
            return quotient.word(0) + (first.isZero() ? 0 : 1);
        }

        void reduce(Fraction fraction) {
            first.copy(fraction.above);
            second.copy(fraction.below);
            Natural greater = first;
            Natural smaller = second;
            // Two steps halve a number at the least.
            for (int step = 0; step < 2 * Natural.MOST_BITS && !smaller.isZero(); step++) {
                divide(greater, smaller);
                Natural rest = greater;
                greater = smaller;
                smaller = rest;
            }
            divide(fraction.above, greater);
            fraction.above.copy(quotient);
            divide(fraction.below, greater);
            fraction.below.copy(quotient);
        }

        /** Leaves the remainder where the dividend was. */
        private void divide(Natural dividend, Natural divisor) {
            quotient.set(0);
            int divisorLength = divisor.bitLength();
            if (divisorLength == 0) {
                return;
            }
            for (int shift = dividend.bitLength() - divisorLength; shift >= 0; shift--) {
                shifted.setShifted(divisor, shift);
                if (Natural.compareProducts(dividend, 1, shifted, 1) >= 0) {
                    dividend.weigh(1, shifted, -1);
                    quotient.setBit(shift);
                }
            }
        }
    }

    /**
     * A whole number that is not negative, in words of 24 bits, the lowest first.
     *
     * It has room for the longest: below the line of the push stand at most 1000, 12 periods, 12
     * stiffnesses and the factor 12, less than 305 bits; a period and a stiffness more, for a
     * load, make less than 330.
     */
    private static final class Natural {
        private static final int WORDS = 16;
        private static final int WORD_BITS = 24;
        private static final int INT_BITS = 32;
        private static final int MASK = (1 << WORD_BITS) - 1;
        private static final int MOST_BITS = WORDS * WORD_BITS;

        private final int[] words;

        Natural() {
            words = new int[WORDS];
        }

        int word(int k) {
            return k >= 0 && k < WORDS ? words[k] : 0;
        }

        boolean isZero() {
            return bitLength() == 0;
        }

        int bitLength() {
            for (int i = WORDS - 1; i >= 0; i--) {
                if (words[i] != 0) {
                    return i * WORD_BITS + INT_BITS - Integer.numberOfLeadingZeros(words[i]);
                }
            }
            return 0;
        }

        void set(int number) {
            for (int i = 0; i < WORDS; i++) {
                words[i] = 0;
            }
            words[0] = number & MASK;
        }

        void copy(Natural other) {
            System.arraycopy(other.words, 0, words, 0, WORDS);
        }

        void setBit(int bit) {
            if (bit >= 0 && bit < MOST_BITS) {
                words[bit / WORD_BITS] |= 1 << (bit % WORD_BITS);
            }
        }

        void setShifted(Natural other, int bits) {
            int far = bits / WORD_BITS;
            int near = bits % WORD_BITS;
            for (int i = 0; i < WORDS; i++) {
                int high = other.word(i - far) << near;
                int low = other.word(i - far - 1) >>> (WORD_BITS - near);
                words[i] = (high | low) & MASK;
            }
        }

        void setProduct(Natural one, Natural other) {
            set(0);
            for (int i = 0; i < WORDS; i++) {
                long carry = 0;
                for (int j = 0; i + j < WORDS; j++) {
                    long sum = (long) one.words[i] * other.words[j] + words[i + j] + carry;
                    words[i + j] = (int) (sum & MASK);
                    carry = sum >> WORD_BITS;
                }
            }
        }

        void multiply(int factor) {
            weigh(factor, this, 0);
        }

        /** This one and the other one, each times its weight; only where that is not negative. */
        void weigh(long weight, Natural other, long otherWeight) {
            long carry = 0;
            for (int i = 0; i < WORDS; i++) {
                long sum = words[i] * weight + other.words[i] * otherWeight + carry;
                words[i] = (int) (sum & MASK);
                // Shifts the sign along, so that a word may borrow from the next.
                carry = sum >> WORD_BITS;
            }
        }

        int remainder(int divisor) {
            if (divisor < 2) {
                return 0;
            }
            long rest = 0;
            for (int i = WORDS - 1; i >= 0; i--) {
                rest = ((rest << WORD_BITS) + words[i]) % divisor;
            }
            return (int) rest;
        }

        void divideExactly(int divisor) {
            if (divisor < 2) {
                return;
            }
            long rest = 0;
            for (int i = WORDS - 1; i >= 0; i--) {
                rest = (rest << WORD_BITS) + words[i];
                words[i] = (int) (rest / divisor);
                rest = rest % divisor;
            }
        }

        /** Compares one times its weight with the other times its; the weights stay below 2^38. */
        static int compareProducts(Natural one, long weight, Natural other, long otherWeight) {
            long carry = 0;
            long rest = 0;
            for (int i = 0; i < WORDS; i++) {
                long sum = one.words[i] * weight - other.words[i] * otherWeight + carry;
                rest |= sum & MASK;
                carry = sum >> WORD_BITS;
            }
            if (carry < 0) {
                return -1;
            }
            return carry == 0 && rest == 0 ? 0 : 1;
        }
    }
}
