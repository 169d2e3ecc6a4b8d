/** Each promise of the document by itself; every answer that is due was worked out by hand. */
public final class PromiseTest {
    private static final int NONE = -1;
    private static final int ANNOUNCED = 0;
    private static final int IN_FORCE = 1;
    private static final int LEAVING = 2;

    private static final int CLOCK = 0;
    private static final int ALLOWED = 1;
    private static final int MISSED = 2;
    private static final int SOLVES = 3;
    private static final int UNUSED = 4;
    private static final int INSTANT = 5;
    private static final int TASKS = 6;
    private static final int REFUSED_AT = 7;

    private static final int PHASE = 0;
    private static final int PERIOD = 1;
    private static final int SOLVED = 2;
    private static final int END = 3;
    private static final int NEEDS = 4;
    private static final int ENDS = 5;
    private static final int LATEST_END = 6;
    private static final int FLAT = 7;

    private static int asked = 0;
    private static int wrong = 0;

    public static void main(String[] args) {
        newObject();
        addTakesOnlyGoodArguments();
        addKeepsToTwelveTasks();
        addRefusesTooMuch();
        addTellsTheWait();
        leaveOfAnnounced();
        leaveAtTheEndOfThePeriod();
        leaveGivesBackAtTheInstant();
        loadTakesOnlyWhatHolds();
        loadLengthensFirst();
        useTellsTheNextJob();
        useOfNoTicks();
        tickTakesOnlyGoodNumbers();
        tickGoesByDeadline();
        tickKeepsTheLaterInstant();
        tickLengthensBeforeTheInstant();
        taskTellsAll();
        taskTellsWhoIsFlat();
        taskTellsNoLoadOfWhoLeaves();
        rateTellsWords();
        totalTellsWords();
        stateTellsAll();
        System.out.println(asked + " answers, " + wrong + " of them not as due");
        if (wrong != 0) {
            System.exit(1);
        }
    }

    // Promise 1

    private static void newObject() {
        ElasticKernel kernel = new ElasticKernel();
        state("1: new", kernel, 0, 1000, 0, 0, 1000, 0, 0, 0);
        due("1: total above", kernel.total(0, 0), 0);
        due("1: total below", kernel.total(1, 0), 1);
        due("1: no task", kernel.task(1, PHASE), NONE);
        due("1: no rate", kernel.rate(1, 0, 0), NONE);
        due("1: nothing to leave", kernel.leave(1), false);
        due("1: nothing to use", kernel.use(1, 0), false);
        due("1: an idle tick", kernel.tick(1), 0);
        ElasticKernel other = new ElasticKernel();
        due("1: add", kernel.add(1, 1, 2, 2, 1), 0);
        state("1: another one", other, 0, 1000, 0, 0, 1000, 0, 0, 0);
        due("1: NONE", ElasticKernel.NONE, -1);
    }

    // Promise 2

    private static void addTakesOnlyGoodArguments() {
        ElasticKernel kernel = new ElasticKernel();
        int[][] bad = {{0, 1, 9, 9, 1}, {100, 1, 9, 9, 1}, {-1, 1, 9, 9, 1}, {1, 0, 9, 9, 1}, {1, -1, 9, 9, 1},
            {1, 10, 9, 9, 1}, {1, 1, 0, 9, 1}, {1, 0, 0, 9, 1}, {1, 1, 9, 8, 1}, {1, 1, 9, 20001, 1},
            {1, 1, 20001, 20001, 1}, {1, 20001, 20001, 20001, 1}, {1, 1, 9, 9, 0}, {1, 1, 9, 9, 1001}, {1, 1, 9, 9, -1},
            {Integer.MIN_VALUE, 1, 9, 9, 1}, {1, Integer.MIN_VALUE, 9, 9, 1}, {1, 1, 9, Integer.MAX_VALUE, 1},
            {1, 1, 9, 9, Integer.MAX_VALUE}, {Integer.MAX_VALUE, 1, 9, 9, 1}, {1, 1, Integer.MIN_VALUE, 9, 1}};
        for (int[] row : bad) {
            due("2: bad " + java.util.Arrays.toString(row), kernel.add(row[0], row[1], row[2], row[3], row[4]), NONE);
        }
        state("2: bad ones leave no trace", kernel, 0, 1000, 0, 0, 1000, 0, 0, 0);
        due("2: one", kernel.add(1, 1, 9, 9, 1), 0);
        due("2: the id is there", kernel.add(1, 1, 9, 9, 1), NONE);
        due("2: one", kernel.state(TASKS), 1);
        due("2: least of all", new ElasticKernel().add(1, 1, 1, 1, 1), 0);
        due("2: most of all", new ElasticKernel().add(99, 20000, 20000, 20000, 1000), 0);
        due("2: slowest", new ElasticKernel().add(50, 1, 1, 20000, 500), 0);
    }

    private static void addKeepsToTwelveTasks() {
        ElasticKernel kernel = new ElasticKernel();
        for (int id = 12; id >= 1; id--) {
            due("2: task " + id, kernel.add(id, 1, 100, 100, 1), 0);
        }
        due("2: the 13th", kernel.add(13, 1, 100, 100, 1), NONE);
        due("2: the 13th, too much as well", kernel.add(13, 100, 100, 100, 1), NONE);
        due("2: no refusal for want of a place", kernel.state(REFUSED_AT), 0);
        due("2: the id is there", kernel.add(5, 100, 100, 100, 1), NONE);
        due("2: no refusal for the id", kernel.state(REFUSED_AT), 0);
        due("2: twelve", kernel.state(TASKS), 12);
        due("2: tick", kernel.tick(1), 1);
        due("2: leave", kernel.leave(4), true);
        due("2: one that leaves keeps its place", kernel.add(13, 1, 100, 100, 1), NONE);
        due("2: and its id", kernel.add(4, 1, 100, 100, 1), NONE);
        due("2: tick", kernel.tick(100), 1);
        due("2: place again", kernel.add(4, 1, 50, 50, 9), 0);
        task("2: a new task, nothing of the old one", kernel, 4, ANNOUNCED, 0, 50, 0, 0, 0, 0, 0);
    }

    private static void addRefusesTooMuch() {
        ElasticKernel kernel = new ElasticKernel();
        for (int id = 1; id <= 3; id++) {
            due("2: a third", kernel.add(id, 1, 2, 3, 1), 0);
        }
        due("2: three thirds are no more than all", kernel.state(TASKS), 3);
        due("2: a bit more", kernel.add(4, 1, 1, 20000, 1), NONE);
        due("2: refused at the new one", kernel.state(REFUSED_AT), 4);
        kernel = new ElasticKernel();
        kernel.add(5, 1, 2, 2, 1);
        kernel.add(7, 1, 2, 2, 1);
        due("2: refused", kernel.add(6, 1, 20000, 20000, 1), NONE);
        due("2: refused at one behind the new one", kernel.state(REFUSED_AT), 7);
        due("2: not there", kernel.task(6, PHASE), NONE);
        due("2: no solve", kernel.state(SOLVES), 2);
        due("2: two", kernel.state(TASKS), 2);
        kernel = new ElasticKernel();
        kernel.add(1, 1, 2, 2, 1);
        kernel.tick(1);
        kernel.leave(1);
        due("2: LEAVING ones count", kernel.add(2, 2, 3, 3, 1), NONE);
        due("2: refused at 2", kernel.state(REFUSED_AT), 2);
        kernel.tick(2);
        due("2: gone ones do not", kernel.add(2, 2, 3, 3, 1), 0);
        due("2: the refusal is kept", kernel.state(REFUSED_AT), 2);
    }

    private static void addTellsTheWait() {
        ElasticKernel kernel = new ElasticKernel();
        kernel.add(1, 2, 5, 9, 1);
        kernel.tick(2);
        due("2: waits for one whose period grows", kernel.add(2, 4, 5, 20, 1), 3);
        due("2: waits as long", kernel.add(3, 1, 20, 20, 1), 3);
        kernel = new ElasticKernel();
        kernel.add(1, 1, 10, 10, 1);
        kernel.tick(1);
        due("2: no wait where there is room", kernel.add(2, 1, 20, 20, 1), 0);
        kernel.leave(1);
        due("2: waits for one that leaves", kernel.add(3, 1, 5, 5, 1), 9);
        due("2: tick", kernel.tick(9), 0);
        due("2: still waiting", kernel.task(3, PHASE), ANNOUNCED);
        due("2: it comes", kernel.tick(1), 3);
        due("2: in force", kernel.task(3, PHASE), IN_FORCE);
    }

    // Promise 3

    private static void leaveOfAnnounced() {
        ElasticKernel kernel = new ElasticKernel();
        due("3: none such", kernel.leave(1), false);
        due("3: no id", kernel.leave(Integer.MIN_VALUE), false);
        due("3: no solve", kernel.state(SOLVES), 0);
        kernel.add(1, 3, 4, 8, 1);
        kernel.add(2, 3, 4, 8, 1);
        due("3: pressed", kernel.task(1, SOLVED), 6);
        due("3: leaves", kernel.leave(2), true);
        due("3: gone at once", kernel.task(2, PHASE), NONE);
        due("3: one is left", kernel.state(TASKS), 1);
        due("3: a solve", kernel.state(SOLVES), 3);
        due("3: room for the other", kernel.task(1, SOLVED), 4);
        due("3: not twice", kernel.leave(2), false);
        due("3: no wait", kernel.state(INSTANT), 0);
    }

    private static void leaveAtTheEndOfThePeriod() {
        ElasticKernel kernel = new ElasticKernel();
        kernel.add(4, 3, 6, 6, 1);
        kernel.tick(1);
        due("3: leaves", kernel.leave(4), true);
        due("3: LEAVING", kernel.task(4, PHASE), LEAVING);
        due("3: not twice", kernel.leave(4), false);
        due("3: solves", kernel.state(SOLVES), 2);
        due("3: the INSTANT is its end", kernel.state(INSTANT), 6);
        due("3: its job goes on", kernel.tick(1), 4);
        due("3: and ends", kernel.tick(1), 4);
        due("3: ENDS", kernel.task(4, ENDS), 1);
        due("3: idle", kernel.tick(3), 0);
        due("3: there till the tick at its end", kernel.state(TASKS), 1);
        due("3: no new job", kernel.tick(1), 0);
        due("3: gone", kernel.state(TASKS), 0);
        due("3: none late", kernel.state(MISSED), 0);
        kernel = new ElasticKernel();
        kernel.add(4, 1, 2, 2, 1);
        kernel.tick(2);
        due("3: leaves as its period ends", kernel.leave(4), true);
        due("3: LEAVING", kernel.task(4, PHASE), LEAVING);
        due("3: no new job", kernel.tick(1), 0);
        due("3: gone", kernel.task(4, PHASE), NONE);
    }

    private static void leaveGivesBackAtTheInstant() {
        ElasticKernel kernel = new ElasticKernel();
        kernel.add(1, 2, 4, 8, 1);
        kernel.add(2, 3, 6, 12, 1);
        kernel.add(3, 2, 10, 20, 2);
        kernel.tick(1);
        kernel.leave(3);
        due("3: the INSTANT", kernel.state(INSTANT), 13);
        due("3: solved anew", kernel.task(1, SOLVED), 4);
        due("3: in force yet", kernel.task(1, PERIOD), 5);
        kernel.tick(10);
        due("3: kept before the INSTANT", kernel.task(1, PERIOD), 5);
        due("3: till 15", kernel.task(1, END), 15);
        due("3: the other kept too", kernel.task(2, END), 16);
        kernel.tick(2);
        due("3: not gone at 13", kernel.task(3, PHASE), LEAVING);
        kernel.tick(1);
        due("3: gone with the tick at 13", kernel.task(3, PHASE), NONE);
        kernel.tick(2);
        due("3: shorter from 15 on", kernel.task(1, PERIOD), 4);
        due("3: till 19", kernel.task(1, END), 19);
        due("3: the other not yet", kernel.task(2, PERIOD), 8);
        kernel.tick(1);
        due("3: the other from 16 on", kernel.task(2, END), 22);
    }

    // Promise 4

    private static void loadTakesOnlyWhatHolds() {
        ElasticKernel kernel = new ElasticKernel();
        kernel.add(1, 1, 2, 4, 1);
        kernel.add(2, 1, 4, 8, 1);
        due("4: just the LEAST loads", kernel.load(375), true);
        due("4: ALLOWED", kernel.state(ALLOWED), 375);
        due("4: a solve", kernel.state(SOLVES), 3);
        due("4: flat", kernel.task(1, SOLVED), 4);
        due("4: flat", kernel.task(2, SOLVED), 8);
        due("4: less", kernel.load(374), false);
        due("4: refused at 2", kernel.state(REFUSED_AT), 2);
        due("4: far less", kernel.load(249), false);
        due("4: refused at 1", kernel.state(REFUSED_AT), 1);
        int[] bad = {0, 1001, -1, Integer.MIN_VALUE, Integer.MAX_VALUE};
        for (int thousandths : bad) {
            due("4: bad " + thousandths, kernel.load(thousandths), false);
        }
        due("4: bad ones are no refusals", kernel.state(REFUSED_AT), 1);
        due("4: ALLOWED stays", kernel.state(ALLOWED), 375);
        due("4: no solves", kernel.state(SOLVES), 3);
        due("4: just the FULL loads", kernel.load(750), true);
        due("4: full", kernel.task(1, SOLVED), 2);
        due("4: full", kernel.task(2, SOLVED), 4);
        due("4: add goes by ALLOWED", kernel.add(3, 3, 8, 8, 1), 0);
        due("4: and refuses by it", kernel.add(4, 1, 20000, 20000, 1), NONE);
        due("4: refused at 4", kernel.state(REFUSED_AT), 4);
        kernel = new ElasticKernel();
        due("4: least", kernel.load(1), true);
        due("4: most", kernel.load(1000), true);
        kernel.add(1, 1, 2, 2, 1);
        kernel.add(2, 1, 4, 4, 1);
        kernel.tick(1);
        kernel.leave(1);
        due("4: LEAVING ones count", kernel.load(749), false);
        due("4: refused at 2", kernel.state(REFUSED_AT), 2);
        due("4: all of them", kernel.load(750), true);
    }

    private static void loadLengthensFirst() {
        ElasticKernel kernel = new ElasticKernel();
        kernel.add(1, 2, 4, 8, 1);
        kernel.tick(1);
        kernel.load(250);
        due("4: solved", kernel.task(1, SOLVED), 8);
        due("4: the INSTANT", kernel.state(INSTANT), 4);
        kernel.tick(3);
        due("4: not before the period ends", kernel.task(1, PERIOD), 4);
        kernel.tick(1);
        due("4: longer", kernel.task(1, PERIOD), 8);
        due("4: till 12", kernel.task(1, END), 12);
        kernel.load(500);
        due("4: the clock is the INSTANT", kernel.state(INSTANT), 5);
        kernel.tick(7);
        due("4: not before the period ends", kernel.task(1, PERIOD), 8);
        kernel.tick(1);
        due("4: shorter", kernel.task(1, END), 16);
    }

    // Promise 5

    private static void useTellsTheNextJob() {
        ElasticKernel kernel = new ElasticKernel();
        due("5: none such", kernel.use(1, 0), false);
        kernel.add(1, 3, 5, 5, 1);
        due("5: below 0", kernel.use(1, -1), false);
        due("5: above the COST", kernel.use(1, 4), false);
        due("5: the COST", kernel.use(1, 3), true);
        due("5: the latest counts", kernel.use(1, 2), true);
        due("5: a bad one does not", kernel.use(1, 9), false);
        due("5: nothing before the release", kernel.task(1, NEEDS), 0);
        kernel.tick(1);
        due("5: one of two", kernel.task(1, NEEDS), 1);
        kernel.tick(1);
        due("5: done", kernel.task(1, LATEST_END), 2);
        due("5: idle", kernel.tick(1), 0);
        kernel.tick(3);
        due("5: the COST again", kernel.task(1, NEEDS), 2);
        due("5: told while a job runs", kernel.use(1, 1), true);
        due("5: that one needs what it needed", kernel.task(1, NEEDS), 2);
        kernel.tick(5);
        due("5: the next needs 1", kernel.task(1, NEEDS), 0);
        due("5: done at 11", kernel.task(1, LATEST_END), 11);
        kernel.leave(1);
        due("5: of one that leaves too", kernel.use(1, 1), true);
    }

    private static void useOfNoTicks() {
        ElasticKernel kernel = new ElasticKernel();
        kernel.add(1, 3, 5, 5, 1);
        kernel.add(2, 1, 5, 5, 1);
        kernel.tick(4);
        due("5: none", kernel.use(1, 0), true);
        kernel.tick(1);
        due("5: ENDS before", kernel.task(1, ENDS), 1);
        due("5: the other runs", kernel.tick(1), 2);
        due("5: done at the release", kernel.task(1, ENDS), 2);
        due("5: with that end", kernel.task(1, LATEST_END), 5);
        due("5: needs none", kernel.task(1, NEEDS), 0);
        due("5: idle", kernel.tick(1), 0);
        kernel.tick(4);
        due("5: the COST again", kernel.task(1, NEEDS), 2);
        due("5: none late", kernel.state(MISSED), 0);
    }

    // Promise 6

    private static void tickTakesOnlyGoodNumbers() {
        ElasticKernel kernel = new ElasticKernel();
        int[] bad = {0, -1, 5001, Integer.MIN_VALUE, Integer.MAX_VALUE};
        for (int n : bad) {
            boolean isThrown = false;
            try {
                kernel.tick(n);
            } catch (IllegalArgumentException e) {
                isThrown = true;
            }
            due("6: tick(" + n + ") throws", isThrown, true);
        }
        due("6: no tick", kernel.state(CLOCK), 0);
        due("6: most", kernel.tick(5000), 0);
        due("6: the clock", kernel.state(CLOCK), 5000);
    }

    private static void tickGoesByDeadline() {
        ElasticKernel kernel = new ElasticKernel();
        kernel.add(1, 4, 10, 10, 1);
        kernel.add(2, 1, 3, 3, 1);
        ticks("6: the earlier deadline goes first", kernel, 2, 1, 1, 2, 1, 1, 2, 0, 0, 2, 1);
        due("6: end of the job", kernel.task(1, LATEST_END), 6);
        kernel = new ElasticKernel();
        kernel.add(7, 1, 4, 4, 1);
        kernel.add(3, 2, 4, 4, 1);
        ticks("6: of equal deadlines the least id", kernel, 3, 3, 7, 0, 3, 3, 7, 0);
        kernel = new ElasticKernel();
        kernel.add(1, 3, 6, 6, 1);
        kernel.add(2, 3, 8, 8, 1);
        kernel.tick(1);
        kernel.leave(1);
        ticks("6: one that leaves keeps its turn", kernel, 1, 1, 2, 2, 2, 0, 0, 2);
        kernel = new ElasticKernel();
        kernel.add(1, 2, 4, 4, 1);
        due("6: the last of many", kernel.tick(4998), 1);
        due("6: ENDS", kernel.task(1, ENDS), 1250);
        due("6: idle", kernel.tick(1), 0);
        due("6: none late", kernel.state(MISSED), 0);
    }

    private static void tickKeepsTheLaterInstant() {
        ElasticKernel kernel = new ElasticKernel();
        kernel.add(1, 1, 10, 10, 1);
        kernel.add(2, 1, 4, 4, 1);
        kernel.tick(1);
        kernel.leave(1);
        due("6: the end of 1", kernel.state(INSTANT), 10);
        kernel.leave(2);
        due("6: the later stays", kernel.state(INSTANT), 10);
        kernel.add(3, 1, 4, 8, 1);
        kernel.tick(6);
        due("6: 2 is gone, 1 is not", kernel.state(TASKS), 2);
        due("6: 3 waits", kernel.task(3, PHASE), ANNOUNCED);
        kernel.tick(3);
        due("6: 3 waits", kernel.task(3, PHASE), ANNOUNCED);
        due("6: 3 comes at 10", kernel.tick(1), 3);
        due("6: its end", kernel.task(3, END), 14);
        kernel = new ElasticKernel();
        kernel.add(1, 2, 4, 8, 1);
        kernel.tick(1);
        kernel.load(250);
        kernel.load(1000);
        due("6: the later stays, though nobody waits for it", kernel.state(INSTANT), 4);
    }

    private static void tickLengthensBeforeTheInstant() {
        ElasticKernel kernel = new ElasticKernel();
        kernel.add(1, 1, 4, 8, 1);
        kernel.add(2, 1, 10, 20, 1);
        kernel.tick(1);
        kernel.load(175);
        due("6: the later end", kernel.state(INSTANT), 10);
        kernel.tick(4);
        due("6: longer at its own end", kernel.task(1, END), 12);
        due("6: the other not yet", kernel.task(2, END), 10);
        kernel.load(1000);
        kernel.tick(6);
        due("6: shorter again by then", kernel.task(2, END), 20);
        kernel.tick(2);
        due("6: shorter again behind the INSTANT", kernel.task(1, END), 16);
    }

    // Promise 7

    private static void taskTellsAll() {
        ElasticKernel kernel = new ElasticKernel();
        kernel.add(8, 3, 6, 9, 1);
        task("7: ANNOUNCED", kernel, 8, ANNOUNCED, 0, 6, 0, 0, 0, 0, 0);
        kernel.tick(1);
        task("7: IN FORCE", kernel, 8, IN_FORCE, 6, 6, 6, 2, 0, 0, 0);
        kernel.tick(2);
        task("7: done", kernel, 8, IN_FORCE, 6, 6, 6, 0, 1, 3, 0);
        kernel.load(400);
        task("7: pressed", kernel, 8, IN_FORCE, 6, 8, 6, 0, 1, 3, 0);
        kernel.leave(8);
        task("7: LEAVING", kernel, 8, LEAVING, 6, 6, 6, 0, 1, 3, 0);
        due("7: no such what", kernel.task(8, -1), NONE);
        due("7: no such what", kernel.task(8, 8), NONE);
        due("7: no such what", kernel.task(8, Integer.MAX_VALUE), NONE);
        due("7: none such", kernel.task(7, PHASE), NONE);
        due("7: none such", kernel.task(Integer.MIN_VALUE, PHASE), NONE);
        kernel.tick(4);
        due("7: gone", kernel.task(8, ENDS), NONE);
    }

    private static void taskTellsWhoIsFlat() {
        ElasticKernel kernel = new ElasticKernel();
        kernel.add(1, 1, 2, 4, 1);
        kernel.add(2, 1, 4, 4, 1);
        kernel.add(3, 1, 4, 8, 1000);
        due("7: full", kernel.task(1, FLAT), 0);
        kernel.load(750);
        due("7: pressed by 250 / 1001", kernel.task(1, SOLVED), 4);
        due("7: not flat yet", kernel.task(1, FLAT), 0);
        due("7: the LEAST one is the FULL one", kernel.task(2, FLAT), 0);
        kernel.load(749);
        due("7: flat", kernel.task(1, FLAT), 1);
        due("7: the stiff one is not", kernel.task(3, FLAT), 0);
        kernel.load(625);
        due("7: all are", kernel.task(3, FLAT), 1);
        due("7: but for the one that can't be", kernel.task(2, FLAT), 0);
        kernel = new ElasticKernel();
        kernel.add(1, 1, 2, 4, 2);
        kernel.add(2, 2, 4, 20, 2);
        kernel.load(500);
        due("7: just as far as flat", kernel.task(1, FLAT), 1);
        due("7: as far, not flat", kernel.task(2, FLAT), 0);
        due("7: as far", kernel.task(2, SOLVED), 8);
    }

    private static void taskTellsNoLoadOfWhoLeaves() {
        ElasticKernel kernel = new ElasticKernel();
        kernel.add(1, 1, 4, 8, 1);
        kernel.add(2, 1, 2, 4, 1);
        kernel.add(3, 1, 2, 4, 1000);
        kernel.load(700);
        due("7: flat and ANNOUNCED", kernel.task(1, FLAT), 1);
        kernel.tick(1);
        due("7: flat and IN FORCE", kernel.task(1, FLAT), 1);
        kernel.leave(1);
        task("7: flat once, LEAVING", kernel, 1, LEAVING, 8, 8, 8, 1, 0, 0, 0);
        due("7: flat, and stays", kernel.task(2, FLAT), 1);
        due("7: the stiff one is not", kernel.task(3, FLAT), 0);
        kernel.load(625);
        due("7: LEAVING, and all others give way", kernel.task(1, FLAT), 0);
        kernel.tick(7);
        due("7: LEAVING till the end", kernel.task(1, FLAT), 0);
        kernel.tick(1);
        due("7: gone", kernel.task(1, FLAT), NONE);
        kernel.load(500);
        kernel.add(1, 1, 4, 8, 1);
        due("7: REFUSED, not there", kernel.task(1, FLAT), NONE);
        kernel.load(625);
        kernel.add(1, 1, 4, 8, 1);
        due("7: there again, flat again", kernel.task(1, FLAT), 1);
    }

    // Promise 8

    private static void rateTellsWords() {
        ElasticKernel kernel = new ElasticKernel();
        kernel.add(1, 6, 8, 16, 1);
        words("8: without common factors", kernel, 1, 0, 3, 0, 0);
        words("8: without common factors", kernel, 1, 1, 4, 0, 0);
        kernel = new ElasticKernel();
        kernel.add(1, 7001, 7919, 20000, 997);
        kernel.add(2, 9001, 9973, 19997, 991);
        words("8: 11034214667", kernel, 1, 0, 11583755, 657, 0, 0);
        words("8: 22429237108", kernel, 1, 1, 14876532, 1336, 0, 0);
        words("8: 11395022441", kernel, 2, 0, 3292777, 679, 0, 0);
        words("8: 22429237108", kernel, 2, 1, 14876532, 1336, 0, 0);
        due("8: rounded up", kernel.task(1, SOLVED), 14231);
        due("8: rounded up", kernel.task(2, SOLVED), 17717);
        due("8: far behind", kernel.rate(1, 1, Integer.MAX_VALUE), 0);
        due("8: k below 0", kernel.rate(1, 0, -1), NONE);
        due("8: k far below 0", kernel.rate(1, 0, Integer.MIN_VALUE), NONE);
        due("8: no such part", kernel.rate(1, 2, 0), NONE);
        due("8: no such part", kernel.rate(1, -1, 0), NONE);
        due("8: none such", kernel.rate(3, 0, 0), NONE);
        kernel.tick(1);
        due("8: IN FORCE", kernel.rate(2, 0, 1), 679);
        kernel.leave(2);
        due("8: LEAVING", kernel.rate(2, 0, 0), NONE);
        words("8: full at once", kernel, 1, 0, 7001, 0);
        words("8: full at once", kernel, 1, 1, 7919, 0);
    }

    // Promise 9

    private static void totalTellsWords() {
        ElasticKernel kernel = new ElasticKernel();
        kernel.add(1, 1, 19997, 20000, 1);
        kernel.add(2, 1, 19993, 20000, 1);
        kernel.add(3, 1, 19991, 20000, 1);
        totals("9: 1199240111", kernel, 0, 8057775, 71, 0, 0);
        totals("9: 7992402219811", kernel, 1, 4952867, 476384, 0, 0);
        due("9: far behind", kernel.total(0, Integer.MAX_VALUE), 0);
        due("9: k below 0", kernel.total(0, -1), NONE);
        due("9: no such part", kernel.total(2, 0), NONE);
        due("9: no such part", kernel.total(-1, 0), NONE);
        kernel.tick(1);
        kernel.leave(1);
        kernel.leave(2);
        totals("9: LEAVING ones do not count", kernel, 0, 1, 0);
        totals("9: LEAVING ones do not count", kernel, 1, 19991, 0);
        kernel.leave(3);
        totals("9: none", kernel, 0, 0, 0);
        totals("9: none", kernel, 1, 1, 0);
        kernel = new ElasticKernel();
        kernel.add(1, 1, 1, 4, 3);
        kernel.add(2, 1, 1, 4, 7);
        totals("9: all", kernel, 0, 1, 0);
        totals("9: all", kernel, 1, 1, 0);
        kernel.load(650);
        totals("9: what is ALLOWED", kernel, 0, 13, 0);
        totals("9: what is ALLOWED", kernel, 1, 20, 0);
        kernel = new ElasticKernel();
        kernel.add(1, 1, 6, 6, 1);
        kernel.add(2, 1, 3, 3, 1);
        totals("9: without common factors", kernel, 0, 1, 0);
        totals("9: without common factors", kernel, 1, 2, 0);
    }

    // Promise 10

    private static void stateTellsAll() {
        ElasticKernel kernel = new ElasticKernel();
        kernel.add(1, 1, 3, 6, 1);
        state("10: a third", kernel, 0, 1000, 0, 1, 666, 0, 1, 0);
        kernel.tick(2);
        kernel.load(900);
        state("10: less", kernel, 2, 900, 0, 2, 566, 2, 1, 0);
        kernel.load(300);
        state("10: pressed", kernel, 2, 300, 0, 3, 0, 3, 1, 0);
        kernel.load(100);
        state("10: refused", kernel, 2, 300, 0, 3, 0, 3, 1, 1);
        kernel.leave(1);
        state("10: the loads without it", kernel, 2, 300, 0, 4, 300, 3, 1, 1);
        kernel.tick(5);
        state("10: none", kernel, 7, 300, 0, 4, 300, 3, 0, 1);
        due("10: no such what", kernel.state(-1), NONE);
        due("10: no such what", kernel.state(8), NONE);
        due("10: no such what", kernel.state(Integer.MIN_VALUE), NONE);
    }

    private static void state(String text, ElasticKernel kernel, int... wants) {
        for (int what = 0; what < wants.length; what++) {
            due(text + ", state(" + what + ")", kernel.state(what), wants[what]);
        }
    }

    private static void task(String text, ElasticKernel kernel, int id, int... wants) {
        for (int what = 0; what < wants.length; what++) {
            due(text + ", task(" + id + ", " + what + ")", kernel.task(id, what), wants[what]);
        }
    }

    private static void words(String text, ElasticKernel kernel, int id, int part, int... wants) {
        for (int k = 0; k < wants.length; k++) {
            due(text + ", rate(" + id + ", " + part + ", " + k + ")", kernel.rate(id, part, k), wants[k]);
        }
    }

    private static void totals(String text, ElasticKernel kernel, int part, int... wants) {
        for (int k = 0; k < wants.length; k++) {
            due(text + ", total(" + part + ", " + k + ")", kernel.total(part, k), wants[k]);
        }
    }

    private static void ticks(String text, ElasticKernel kernel, int... wants) {
        for (int want : wants) {
            due(text + ", at " + kernel.state(CLOCK), kernel.tick(1), want);
        }
    }

    private static void due(String text, boolean got, boolean want) {
        due(text, got ? 1 : 0, want ? 1 : 0);
    }

    private static void due(String text, int got, int want) {
        asked++;
        if (got != want) {
            wrong++;
            System.out.println("promise " + text + ": answered " + got + ", due is " + want);
        }
    }
}
