/**
 * For each promise whose call takes arguments: the last argument that is accepted on each side, with
 * what it brings about, and the first one that is refused.
 */
public final class EdgesTest {
    private EdgesTest() {
    }

    public static void main(String[] args) {
        targets();
        slacks();
        thresholdZero();
        thresholdGreatest();
        allowances();
        forgettings();
        limitZero();
        limitsOfTheGreatestRise();
        penaltyZero();
        penaltyGreatest();
        addedValues();
        lastRoomForAdd();
        steps();
        counts();
        lastValuesOfRuns();
        lastRoomForRuns();
        valueNumbers();
        alarmPlaces();
        segmentEnds();
        changePlaces();
        greedyChangePlaces();
        numbersOfChanges();
        truthNumbers();
        kinds();
        windows();
        Check.end();
    }

    private static void targets() {
        Breakpoint x = new Breakpoint();
        x.setSums(-1000, 0, 100000);
        Check.addAll(x, -1000);
        Check.same("P3 target -1000 of -1000", Check.sums(x), "0 0 0");
        x.add(-999);
        Check.same("P3 target -1000 of -999", x.highSum(), 1);
        Check.outOfRange("P3 target -1001", () -> x.setSums(-1001, 0, 100000));
        Check.same("P3 behind target -1001", x.highSum(), 1);
        x.setSums(1000, 0, 100000);
        x.add(1000);
        Check.same("P3 target 1000 of 1000", x.lowSum(), 0);
        x.add(999);
        Check.same("P3 target 1000 of 999", x.lowSum(), 1);
        Check.outOfRange("P3 target 1001", () -> x.setSums(1001, 0, 100000));
        x.add(999);
        Check.same("P3 behind target 1001", x.lowSum(), 2);
    }

    private static void slacks() {
        Breakpoint x = new Breakpoint();
        x.setSums(7, 0, 100000);
        x.add(8);
        Check.same("P3 slack 0", x.highSum(), 1);
        Check.outOfRange("P3 slack -1", () -> x.setSums(7, -1, 100000));
        x.add(8);
        Check.same("P3 behind slack -1", x.highSum(), 2);
        x.setSums(-1, 1000, 100000);
        x.add(999);
        Check.same("P3 slack 1000 of 999", x.highSum(), 0);
        x.add(1000);
        Check.same("P3 slack 1000 of 1000", x.highSum(), 1);
        Check.outOfRange("P3 slack 1001", () -> x.setSums(-1, 1001, 100000));
        x.add(1000);
        Check.same("P3 behind slack 1001", x.highSum(), 2);
    }

    private static void thresholdZero() {
        Breakpoint x = new Breakpoint();
        x.setSums(0, 5, 0);
        Check.same("P3 threshold 0, sums 0", x.add(5), 0);
        Check.same("P3 threshold 0, sums 0 again", x.add(-5), 0);
        Check.same("P3 threshold 0, high sum 1", x.add(6), 1);
        Check.same("P3 threshold 0, low sum 1", x.add(-6), 2);
        Check.outOfRange("P3 threshold -1", () -> x.setSums(0, 5, -1));
        Check.same("P3 behind threshold -1", x.add(5), 0);
    }

    private static void thresholdGreatest() {
        Breakpoint x = Check.quiet();
        x.setSums(-1000, 0, 100000);
        Check.same("P3 on the way to 100000", x.addRun(1000, 0, 40) + x.addRun(1000, 0, 9), 0);
        Check.same("P3 high sum 100000", x.add(1000), 0);
        Check.same("P10 greatest", x.highSum(), 100000);
        Check.same("P3 high sum 100001", x.add(-999), 1);
        Check.same("P3 alarm of 100001", Check.alarms(x), "0@50<0");
        x.setSums(1000, 0, 100000);
        Check.same("P3 downwards to 98000", x.addRun(-1000, 0, 40) + x.addRun(-1000, 0, 9), 0);
        Check.same("P3 low sum 100000", x.add(-1000), 0);
        Check.same("P11 greatest", x.lowSum(), 100000);
        Check.outOfRange("P3 threshold 100001", () -> x.setSums(1000, 0, 100001));
        Check.same("P3 low sum 100001", x.add(999), 2);
        Check.same("P3 alarms of 100001", Check.alarms(x), "0@50<0 1@101<51");
    }

    private static void allowances() {
        Breakpoint x = Check.quiet();
        x.setTest(0, 1000, 100000);
        Check.addAll(x, 0, 1);
        Check.same("P4 allowance 0", x.testSum(), 1);
        Check.outOfRange("P4 allowance -1", () -> x.setTest(-1, 1000, 100000));
        Check.same("P4 behind allowance -1", x.testSum(), 1);
        x.setTest(1000, 1000, 100000);
        // sums -1000, then 999 less a mean of -1 is no more than the allowance
        Check.addAll(x, -1000, 999);
        Check.same("P4 allowance 1000", x.testSum(), 0);
        // -1000 and 1000 less a mean of 333, less 1000
        x.add(1000);
        Check.same("P4 allowance 1000, mean 333", x.testSum(), 0);
        x.setTest(1000, 1000, 100000);
        // sums -1000 -2000, then 1000 less a mean of -334 is 334 more than the allowance
        Check.addAll(x, -1000, -1000, 1000);
        Check.same("P4 allowance 1000, mean -334", x.testSum(), 334);
        Check.outOfRange("P4 allowance 1001", () -> x.setTest(1001, 1000, 100000));
        Check.same("P4 behind allowance 1001", x.testSum(), 334);
    }

    private static void forgettings() {
        Breakpoint x = Check.quiet();
        x.setTest(0, 0, 100000);
        Check.addAll(x, -1000, 1000);
        Check.same("P4 forgetting 0, the value's own part", x.testSum(), 1000);
        Check.outOfRange("P4 forgetting -1", () -> x.setTest(0, -1, 100000));
        x.add(0);
        Check.same("P4 forgetting 0, nothing is kept", x.testSum(), 0);
        x.setTest(0, 1, 100000);
        Check.addAll(x, -1000, 1000, 0);
        Check.same("P4 forgetting 1, of 1000", x.testSum(), 1);
        x.setTest(0, 1, 100000);
        Check.addAll(x, -999, 999, 0);
        Check.same("P4 forgetting 1, of 999", x.testSum(), 0);
        x.setTest(0, 999, 100000);
        Check.addAll(x, -1000, 1000, 0);
        Check.same("P4 forgetting 999, of 1000", x.testSum(), 999);
        x.setTest(0, 1000, 100000);
        Check.addAll(x, -1000, 1000, 0);
        Check.same("P4 forgetting 1000, all is kept", x.testSum(), 1000);
        Check.outOfRange("P4 forgetting 1001", () -> x.setTest(0, 1001, 100000));
        x.add(0);
        Check.same("P4 behind forgetting 1001", x.testSum(), 1000);
    }

    private static void limitZero() {
        Breakpoint x = Check.quiet();
        x.setTest(0, 1000, 0);
        Check.same("P4 limit 0, difference 0", x.add(4), 0);
        Check.same("P4 limit 0, difference 0 again", x.add(4), 0);
        Check.outOfRange("P4 limit -1", () -> x.setTest(0, 1000, -1));
        // 5 less a mean of 4
        Check.same("P4 limit 0, difference 1", x.add(5), 4);
        Check.same("P4 alarm of the limit 0", Check.alarms(x), "2@2<0");
    }

    /** No series of 120 values gets the difference up to 100000; this one gets it very near to its greatest. */
    private static void limitsOfTheGreatestRise() {
        int rise = 0;
        for (int high = 1; high <= 76; high++) {
            rise += 1000 - Math.floorDiv(1000 * (high - 44), high + 44);
        }
        Breakpoint x = risen(100000, 119);
        Check.outOfRange("P4 limit 100001", () -> x.setTest(0, 1000, 100001));
        Check.same("P4 limit 100000", x.add(1000), 0);
        Check.same("P12 great", x.testSum(), rise);
        Check.same("P4 the limit is reached", risen(rise, 119).add(1000), 0);
        Breakpoint y = risen(rise - 1, 119);
        Check.same("P4 the limit is passed", y.add(1000), 4);
        Check.same("P16 start of the rise", Check.alarms(y), "2@119<0");
    }

    private static Breakpoint risen(int limit, int count) {
        Breakpoint x = Check.quiet();
        x.setTest(0, 1000, limit);
        for (int number = 0; number < count; number++) {
            x.add(number < 44 ? -1000 : 1000);
        }
        return x;
    }

    private static void penaltyZero() {
        Breakpoint x = Check.quiet(0, 1);
        Check.same("P5 20 ahead", x.setPenalty(0), 20);
        Check.same("P5 penalty 0, gain 1", Check.changes(x) + " " + x.bestCost(), "1 0");
        Check.same("P5 penalty 0, greedy", Check.greedyChanges(x) + " " + x.greedyCost(), "1 0");
        Check.outOfRange("P5 penalty -1", () -> x.setPenalty(-1));
        Check.same("P5 behind penalty -1", x.setPenalty(1), 0);
        Check.same("P5 penalty 1, gain 1", Check.changes(x) + " " + x.bestCost(), " 1");
        Check.same("P5 penalty 1, greedy", Check.greedyChanges(x) + " " + x.greedyCost(), " 1");
    }

    private static void penaltyGreatest() {
        Breakpoint x = Check.quiet();
        x.setPenalty(100000);
        x.addRun(-1000, 0, 40);
        x.addRun(-1000, 0, 10);
        x.addRun(1000, 0, 40);
        x.addRun(1000, 0, 10);
        Check.same("P5 penalty 100000, gain 100000", Check.changes(x) + " " + x.bestCost(), " 100000");
        Check.same("P5 greedy of the same", Check.greedyChanges(x) + " " + x.greedyCost(), " 100000");
        Check.outOfRange("P5 penalty 100001", () -> x.setPenalty(100001));
        x.clear();
        x.addRun(-1000, 0, 40);
        x.addRun(-1000, 0, 10);
        x.add(-995);
        x.addRun(961, 0, 40);
        x.addRun(961, 0, 11);
        // 100006 as one segment, 5 as two
        Check.same("P5 penalty 100000, gain 100001", Check.changes(x) + " " + x.bestCost(), "51 100005");
        Check.same("P5 greedy of gain 100001", Check.greedyChanges(x) + " " + x.greedyCost(), "51 100005");
        Check.same("P5 penalty stays", x.setPenalty(99999), 100000);
        Check.same("P5 penalty 99999", x.setPenalty(5), 99999);
    }

    private static void addedValues() {
        Breakpoint x = Check.quiet();
        Check.same("P6 add 1000", x.add(1000), 0);
        Check.outOfRange("P6 add 1001", () -> x.add(1001));
        Check.same("P6 add -1000", x.add(-1000), 0);
        Check.outOfRange("P6 add -1001", () -> x.add(-1001));
        Check.same("P6 values", x.size() + " " + x.value(0) + " " + x.value(1), "2 1000 -1000");
    }

    private static void lastRoomForAdd() {
        Breakpoint x = filled(119);
        Check.same("P6 the 120th value", x.add(4), 0);
        Check.notNow("P6 the 121st value", () -> x.add(4));
        Check.outOfRange("P6 1001 goes first", () -> x.add(1001));
        Check.outOfRange("P6 -1001 goes first", () -> x.add(-1001));
        Check.same("P6 120 values", x.size(), 120);
        x.clear();
        Check.same("P6 room again", x.add(4), 0);
    }

    private static Breakpoint filled(int count) {
        Breakpoint x = Check.quiet();
        for (int number = 0; number < count; number++) {
            x.add(number);
        }
        return x;
    }

    private static void steps() {
        Breakpoint x = Check.quiet();
        x.addRun(-1000, 1000, 3);
        x.addRun(1000, -1000, 3);
        x.addRun(1000, 1000, 1);
        x.addRun(-1000, -1000, 1);
        Check.outOfRange("P7 step 1001", () -> x.addRun(-1000, 1001, 1));
        Check.outOfRange("P7 step -1001", () -> x.addRun(1000, -1001, 1));
        Check.same("P7 values", Check.picture(x).substring(0, 48), "values -1000 0 1000 1000 0 -1000 1000 -1000 sums");
    }

    private static void counts() {
        Breakpoint x = Check.quiet();
        Check.outOfRange("P7 count 0", () -> x.addRun(1, 1, 0));
        Check.same("P7 none", x.size(), 0);
        x.addRun(1, 1, 1);
        Check.same("P7 count 1", x.size() + " " + x.value(0), "1 1");
        x.addRun(2, 1, 40);
        Check.same("P7 count 40", x.size() + " " + x.value(1) + " " + x.value(40), "41 2 41");
        Check.outOfRange("P7 count 41", () -> x.addRun(1, 1, 41));
        Check.same("P7 behind count 41", x.size(), 41);
    }

    private static void lastValuesOfRuns() {
        Breakpoint x = Check.quiet();
        x.addRun(961, 1, 40);
        Check.same("P7 the last one is 1000", x.value(39), 1000);
        Check.outOfRange("P7 the last one is 1001", () -> x.addRun(962, 1, 40));
        x.addRun(-961, -1, 40);
        Check.same("P7 the last one is -1000", x.value(79), -1000);
        Check.outOfRange("P7 the last one is -1001", () -> x.addRun(-962, -1, 40));
        x.addRun(1000, -1, 1);
        x.addRun(-1000, 1, 1);
        Check.outOfRange("P7 the first one is 1001", () -> x.addRun(1001, -1, 2));
        Check.outOfRange("P7 the first one is -1001", () -> x.addRun(-1001, 1, 2));
        Check.same("P7 values", x.size() + " " + x.value(80) + " " + x.value(81), "82 1000 -1000");
    }

    private static void lastRoomForRuns() {
        Breakpoint x = filled(80);
        x.addRun(7, 0, 40);
        Check.same("P7 80 and 40", x.size(), 120);
        Check.notNow("P7 120 and 1", () -> x.addRun(7, 0, 1));
        Breakpoint y = filled(81);
        Check.notNow("P7 81 and 40", () -> y.addRun(7, 0, 40));
        Check.same("P7 not one of them", y.size(), 81);
        Check.outOfRange("P7 a count of 41 goes first", () -> y.addRun(7, 0, 41));
        Check.outOfRange("P7 a step of 1001 goes first", () -> y.addRun(7, 1001, 40));
        Check.outOfRange("P7 a value of 1001 goes first", () -> y.addRun(962, 1, 40));
        y.addRun(7, 0, 39);
        Check.same("P7 81 and 39", y.size() + " " + y.value(119), "120 7");
        Check.outOfRange("P7 a count of 0 goes first", () -> y.addRun(7, 0, 0));
        Breakpoint z = filled(119);
        Check.notNow("P7 119 and 2", () -> z.addRun(7, 0, 2));
        z.addRun(7, 0, 1);
        Check.same("P7 119 and 1", z.size() + " " + z.value(119), "120 7");
    }

    private static void valueNumbers() {
        Breakpoint x = Check.quiet(6, -7, 8);
        Check.missing("P9 value -1", () -> x.value(-1));
        Check.same("P9 value 0", x.value(0), 6);
        Check.same("P9 value 2", x.value(2), 8);
        Check.missing("P9 value 3", () -> x.value(3));
        x.add(9);
        Check.same("P9 value 3 now", x.value(3), 9);
        Check.missing("P9 value 4", () -> x.value(4));
    }

    private static void alarmPlaces() {
        Breakpoint x = Check.with(0, 111, 0, -56);
        Check.same("P13 alarms", Check.alarms(x), "0@1<1 2@1<1 1@3<3");
        Check.missing("P14 alarm -1", () -> x.alarmKind(-1));
        Check.missing("P15 alarm -1", () -> x.alarmNumber(-1));
        Check.missing("P16 alarm -1", () -> x.alarmStart(-1));
        Check.same("P14 alarm 0", x.alarmKind(0), 0);
        Check.same("P14 alarm 2", x.alarmKind(2), 1);
        Check.same("P15 alarm 0", x.alarmNumber(0), 1);
        Check.same("P15 alarm 2", x.alarmNumber(2), 3);
        Check.same("P16 alarm 0", x.alarmStart(0), 1);
        Check.same("P16 alarm 2", x.alarmStart(2), 3);
        Check.missing("P14 alarm 3", () -> x.alarmKind(3));
        Check.missing("P15 alarm 3", () -> x.alarmNumber(3));
        Check.missing("P16 alarm 3", () -> x.alarmStart(3));
    }

    private static void segmentEnds() {
        Breakpoint x = Check.quiet(4, 6, 1);
        Check.same("P17 all", x.cost(0, 3), 5);
        Check.same("P18 all", x.middle(0, 3), 4);
        Check.same("P17 the first value", x.cost(0, 1), 0);
        Check.same("P18 the first value", x.middle(0, 1), 4);
        Check.same("P17 the last value", x.cost(2, 3), 0);
        Check.same("P18 the last value", x.middle(2, 3), 1);
        int[][] wrong = {{-1, 3}, {0, 4}, {2, 4}, {3, 4}, {0, 0}, {2, 2}, {3, 3}, {2, 1}, {3, 2}};
        for (int[] w : wrong) {
            Check.missing("P17 cost " + w[0] + " " + w[1], () -> x.cost(w[0], w[1]));
            Check.missing("P18 middle " + w[0] + " " + w[1], () -> x.middle(w[0], w[1]));
        }
    }

    private static void changePlaces() {
        Breakpoint x = Check.quiet(0, 50, 50, 0);
        Check.same("P19 changes", x.changes(), 2);
        Check.missing("P20 change -1", () -> x.change(-1));
        Check.same("P20 change 0", x.change(0), 1);
        Check.same("P20 change 1", x.change(1), 3);
        Check.missing("P20 change 2", () -> x.change(2));
    }

    private static void greedyChangePlaces() {
        Breakpoint x = Check.quiet(0, 50, 50, 200);
        Check.same("P23 greedyChanges", x.greedyChanges(), 2);
        Check.missing("P24 greedyChange -1", () -> x.greedyChange(-1));
        Check.same("P24 greedyChange 0", x.greedyChange(0), 1);
        Check.same("P24 greedyChange 1", x.greedyChange(1), 3);
        Check.missing("P24 greedyChange 2", () -> x.greedyChange(2));
    }

    private static void numbersOfChanges() {
        Breakpoint x = Check.quiet(4, 9, 5);
        Check.outOfRange("P22 leastCost -1", () -> x.leastCost(-1));
        Check.same("P22 leastCost 0", x.leastCost(0), 5);
        Check.same("P22 leastCost 1", x.leastCost(1), 4);
        Check.same("P22 leastCost 2", x.leastCost(2), 0);
        Check.notNow("P22 leastCost 3", () -> x.leastCost(3));
        Check.notNow("P22 leastCost 119", () -> x.leastCost(119));
        Check.outOfRange("P22 leastCost 120", () -> x.leastCost(120));
        Breakpoint y = filled(119);
        Check.same("P22 leastCost 118 of 119 values", y.leastCost(118), 0);
        Check.notNow("P22 leastCost 119 of 119 values", () -> y.leastCost(119));
        y.add(0);
        Check.same("P22 leastCost 119 of 120 values", y.leastCost(119), 0);
        Check.outOfRange("P22 leastCost 120 of 120 values", () -> y.leastCost(120));
    }

    private static void truthNumbers() {
        Breakpoint x = Check.quiet(6, -7, 8);
        Check.missing("P26 toggleTruth -1", () -> x.toggleTruth(-1));
        Check.same("P26 toggleTruth 0", x.toggleTruth(0), true);
        Check.same("P26 toggleTruth 2", x.toggleTruth(2), true);
        Check.missing("P26 toggleTruth 3", () -> x.toggleTruth(3));
        x.add(9);
        Check.same("P26 toggleTruth 3 now", x.toggleTruth(3), true);
        Check.same("P26 toggleTruth 0 again", x.toggleTruth(0), false);
    }

    /** Kinds 0 and 2 each have one alarm with the value 1, kind 1 one with the value 3; 0 is marked. */
    private static Breakpoint withAllKinds() {
        Breakpoint x = Check.with(0, 111, 0, -56);
        x.toggleTruth(0);
        return x;
    }

    private static void kinds() {
        Breakpoint x = withAllKinds();
        for (int kind = 0; kind < 3; kind++) {
            Check.same("P27 kind " + kind, x.matched(kind, 3), 1);
            Check.same("P28 kind " + kind, x.falseAlarms(kind, 3), 0);
            Check.same("P29 kind " + kind, x.averageDelay(kind, 3), kind == 1 ? 3.0f : 1.0f);
        }
        for (int kind : new int[] {-1, 3}) {
            Check.outOfRange("P27 kind " + kind, () -> x.matched(kind, 3));
            Check.outOfRange("P28 kind " + kind, () -> x.falseAlarms(kind, 3));
            Check.outOfRange("P29 kind " + kind, () -> x.averageDelay(kind, 3));
        }
    }

    private static void windows() {
        Breakpoint x = withAllKinds();
        Check.same("P27 window 0", x.matched(0, 0), 0);
        Check.same("P28 window 0", x.falseAlarms(0, 0), 1);
        Check.notNow("P29 window 0", () -> x.averageDelay(0, 0));
        Check.same("P27 window 120", x.matched(1, 120), 1);
        Check.same("P28 window 120", x.falseAlarms(1, 120), 0);
        Check.same("P29 window 120", x.averageDelay(1, 120), 3.0f);
        for (int window : new int[] {-1, 121}) {
            Check.outOfRange("P27 window " + window, () -> x.matched(0, window));
            Check.outOfRange("P28 window " + window, () -> x.falseAlarms(0, window));
            Check.outOfRange("P29 window " + window, () -> x.averageDelay(0, window));
        }
        x.toggleTruth(1);
        Check.same("P29 window 0 now", x.averageDelay(0, 0), 0.0f);
    }
}
