import java.util.function.Supplier;

/**
 * Every call that throws, on an object of each kind: just the exception that the document names, of
 * several the one that goes first, and nothing changed behind it. Each refused call gets an object
 * of its own.
 */
public final class RefusedCallsTest {
    private static final int TOP = Integer.MAX_VALUE;
    private static final int BOTTOM = Integer.MIN_VALUE;

    private final String name;
    private final Supplier<Breakpoint> maker;
    private final int size;
    private final int alarms;
    private final int changes;
    private final int greedyChanges;

    private RefusedCallsTest(String name, Supplier<Breakpoint> maker, int... counts) {
        this.name = " of " + name;
        this.maker = maker;
        this.size = counts[0];
        this.alarms = counts[1];
        this.changes = counts[2];
        this.greedyChanges = counts[3];
    }

    public static void main(String[] args) {
        new RefusedCallsTest("a new object", Breakpoint::new, 0, 0, 0, 0).refuseAll();
        new RefusedCallsTest("an object that is set up", RefusedCallsTest::setUp, 0, 0, 0, 0).refuseAll();
        new RefusedCallsTest("an object with one value", () -> Check.with(7), 1, 0, 0, 0).refuseAll();
        new RefusedCallsTest("an object with seven values", RefusedCallsTest::seven, 7, 3, 3, 3).refuseAll();
        new RefusedCallsTest("an object that was asked", RefusedCallsTest::asked, 7, 3, 3, 3).refuseAll();
        new RefusedCallsTest("an object with 100 values", () -> full(20), 100, 4, 2, 2).refuseAll();
        new RefusedCallsTest("a full object", () -> full(40), 120, 4, 3, 3).refuseAll();
        new RefusedCallsTest("a cleared object", RefusedCallsTest::cleared, 0, 0, 0, 0).refuseAll();
        Check.end();
    }

    private static Breakpoint setUp() {
        Breakpoint x = new Breakpoint();
        x.setSums(-7, 2, 30);
        x.setTest(3, 900, 25);
        x.setPenalty(11);
        return x;
    }

    /** With alarms 0@3<2 0@4<4 2@4<2, the sums on their way, and marks. */
    private static Breakpoint seven() {
        Breakpoint x = Check.with(0, 0, 20, 60, 60, -30, -3);
        x.toggleTruth(1);
        x.toggleTruth(2);
        x.toggleTruth(4);
        return x;
    }

    private static Breakpoint asked() {
        Breakpoint x = seven();
        Check.picture(x);
        return x;
    }

    /** With 80 values and a last run. */
    private static Breakpoint full(int count) {
        Breakpoint x = new Breakpoint();
        x.setSums(10, 2, 300);
        x.setTest(4, 990, 150);
        x.setPenalty(70);
        x.addRun(0, 0, 40);
        x.addRun(30, 0, 40);
        x.addRun(-9, 1, count);
        x.toggleTruth(0);
        x.toggleTruth(41);
        x.toggleTruth(79 + count);
        return x;
    }

    private static Breakpoint cleared() {
        Breakpoint x = full(40);
        x.clear();
        return x;
    }

    private void refuseAll() {
        isAsTold();
        refuseSettings();
        refuseValues();
        refuseRuns();
        refuseRunsWithoutRoom();
        refuseNumbers();
        refuseAlarms();
        refuseSegments();
        refuseChanges();
        refuseLeastCosts();
        refuseMatching();
        refuseAverages();
    }

    private void isAsTold() {
        Breakpoint x = maker.get();
        Check.same("P8" + name, x.size(), size);
        Check.same("P13" + name, x.alarms(), alarms);
        Check.same("P19" + name, x.changes(), changes);
        Check.same("P23" + name, x.greedyChanges(), greedyChanges);
    }

    private void outOfRange(String call, Act act) {
        Check.refusesAndKeeps(call + name, IllegalArgumentException.class, maker, act::on);
    }

    private void missing(String call, Act act) {
        Check.refusesAndKeeps(call + name, IndexOutOfBoundsException.class, maker, act::on);
    }

    private void notNow(String call, Act act) {
        Check.refusesAndKeeps(call + name, IllegalStateException.class, maker, act::on);
    }

    /** A call on an object. */
    private interface Act {
        void on(Breakpoint x);
    }

    private static String told(int... arguments) {
        StringBuilder text = new StringBuilder();
        for (int argument : arguments) {
            text.append(' ').append(argument);
        }
        return text.toString();
    }

    /** The arguments that are in range differ from what is set, so that half a setting would show. */
    private void refuseSettings() {
        int[][] sums = {{-1001, 3, 9}, {1001, 3, 9}, {BOTTOM, 3, 9}, {TOP, 3, 9}, {40, -1, 9}, {40, 1001, 9},
            {40, BOTTOM, 9}, {40, TOP, 9}, {40, 3, -1}, {40, 3, 100001}, {40, 3, BOTTOM}, {40, 3, TOP},
            {-1001, -1, -1}, {1001, 1001, 100001}};
        for (int[] w : sums) {
            outOfRange("P3 setSums" + told(w), x -> x.setSums(w[0], w[1], w[2]));
        }
        int[][] tests = {{-1, 700, 9}, {1001, 700, 9}, {BOTTOM, 700, 9}, {TOP, 700, 9}, {2, -1, 9}, {2, 1001, 9},
            {2, BOTTOM, 9}, {2, TOP, 9}, {2, 700, -1}, {2, 700, 100001}, {2, 700, BOTTOM}, {2, 700, TOP},
            {-1, -1, -1}, {1001, 1001, 100001}};
        for (int[] w : tests) {
            outOfRange("P4 setTest" + told(w), x -> x.setTest(w[0], w[1], w[2]));
        }
        for (int w : new int[] {-1, 100001, BOTTOM, TOP}) {
            outOfRange("P5 setPenalty " + w, x -> x.setPenalty(w));
        }
    }

    private void refuseValues() {
        for (int w : new int[] {-1001, 1001, BOTTOM, TOP}) {
            outOfRange("P6 add " + w, x -> x.add(w));
        }
        if (size == 120) {
            for (int fit : new int[] {-1000, 0, 1000}) {
                notNow("P6 add " + fit, x -> x.add(fit));
            }
        }
    }

    private void refuseRuns() {
        int[][] wrong = {
            // a step or a first value that is out of range, also if no second value is made
            {0, 1001, 1}, {0, -1001, 1}, {0, TOP, 1}, {0, BOTTOM, 1}, {1001, 0, 1}, {-1001, 0, 1}, {TOP, 0, 1},
            {BOTTOM, 0, 1}, {-1000, 1001, 2}, {1000, -1001, 2},
            // a count that is out of range
            {0, 0, 0}, {0, 0, -1}, {0, 0, 41}, {0, 0, TOP}, {0, 0, BOTTOM}, {0, 1000, 1 << 29}, {1, 1, BOTTOM},
            // values that leave the range with the last one, or on the way
            {1000, 1, 2}, {-1000, -1, 2}, {962, 1, 40}, {-962, -1, 40}, {0, 26, 40}, {0, -26, 40}, {1, 1000, 2},
            {-1, -1000, 2}, {-1000, 1000, 4}, {1000, -1000, 4},
            // a first value that is out of range, and the others in it
            {1001, -1, 2}, {-1001, 1, 2}, {2000, -1000, 3},
            // sums that wrap around
            {TOP, 1, 2}, {BOTTOM, -1, 2}, {0, 1 << 30, 5}, {0, BOTTOM, 3}, {TOP, TOP, 3}};
        for (int[] w : wrong) {
            outOfRange("P7 addRun" + told(w), x -> x.addRun(w[0], w[1], w[2]));
        }
    }

    private void refuseRunsWithoutRoom() {
        int most = 120 - size;
        for (int count : new int[] {1, 2, most + 1, most + 2, 39, 40}) {
            if (count > most && count <= 40) {
                notNow("P7 addRun of " + count, x -> x.addRun(60, 3, count));
            }
        }
    }

    private void refuseNumbers() {
        for (int w : new int[] {-1, size, size + 1, Math.max(size, 119), 120, BOTTOM, TOP}) {
            missing("P9 value " + w, x -> x.value(w));
            missing("P26 toggleTruth " + w, x -> x.toggleTruth(w));
        }
    }

    private void refuseAlarms() {
        for (int w : new int[] {-1, alarms, alarms + 1, 360, BOTTOM, TOP}) {
            missing("P14 alarmKind " + w, x -> x.alarmKind(w));
            missing("P15 alarmNumber " + w, x -> x.alarmNumber(w));
            missing("P16 alarmStart " + w, x -> x.alarmStart(w));
        }
    }

    private void refuseSegments() {
        int[][] wrong = {{0, 0}, {size, size}, {size - 1, size - 1}, {1, 0}, {size, size - 1}, {-1, 0}, {-1, 1},
            {-1, size}, {0, size + 1}, {size - 1, size + 1}, {size, size + 1}, {0, 121}, {120, 121}, {-2, -1}, {0, -1},
            {BOTTOM, size}, {BOTTOM, BOTTOM}, {BOTTOM, TOP}, {TOP, BOTTOM}, {0, BOTTOM}, {0, TOP}, {TOP, TOP},
            {TOP, 1}, {BOTTOM, 0}};
        for (int[] w : wrong) {
            missing("P17 cost" + told(w), x -> x.cost(w[0], w[1]));
            missing("P18 middle" + told(w), x -> x.middle(w[0], w[1]));
        }
    }

    private void refuseChanges() {
        for (int w : new int[] {-1, changes, changes + 1, 119, 120, BOTTOM, TOP}) {
            missing("P20 change " + w, x -> x.change(w));
        }
        for (int w : new int[] {-1, greedyChanges, greedyChanges + 1, 119, 120, BOTTOM, TOP}) {
            missing("P24 greedyChange " + w, x -> x.greedyChange(w));
        }
    }

    private void refuseLeastCosts() {
        for (int w : new int[] {-1, 120, 121, BOTTOM, TOP}) {
            outOfRange("P22 leastCost " + w, x -> x.leastCost(w));
        }
        for (int many : new int[] {size, size + 1, 119}) {
            if (many >= size && many <= 119) {
                notNow("P22 leastCost " + many, x -> x.leastCost(many));
            }
        }
    }

    private void refuseMatching() {
        int[][] wrong = {{-1, 0}, {3, 0}, {0, -1}, {2, -1}, {0, 121}, {2, 121}, {TOP, 5}, {BOTTOM, 5}, {1, TOP},
            {1, BOTTOM}, {-1, -1}, {3, 121}};
        for (int[] w : wrong) {
            outOfRange("P27 matched" + told(w), x -> x.matched(w[0], w[1]));
            outOfRange("P28 falseAlarms" + told(w), x -> x.falseAlarms(w[0], w[1]));
            outOfRange("P29 averageDelay" + told(w), x -> x.averageDelay(w[0], w[1]));
        }
    }

    private void refuseAverages() {
        for (int kind = 0; kind < 3; kind++) {
            int of = kind;
            if (maker.get().matched(of, 120) == 0) {
                notNow("P29 averageDelay" + told(of, 0), x -> x.averageDelay(of, 0));
                notNow("P29 averageDelay" + told(of, 120), x -> x.averageDelay(of, 120));
            }
        }
    }
}
