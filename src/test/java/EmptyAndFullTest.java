/** Every call of the face on the empty object, new or cleared, and on the full one. */
public final class EmptyAndFullTest {
    private EmptyAndFullTest() {
    }

    public static void main(String[] args) {
        isEmpty("a new object", new Breakpoint());
        isEmpty("an object that was cleared when empty", clearedWhenEmpty());
        isEmpty("a full object that was cleared", clearedWhenFull());
        isEmpty("an object that was set up", setUp());
        emptyTakesSettings();
        emptyTakesTheFirstValue();
        fullHasItsValues();
        fullHasItsSums();
        fullHasItsAlarms();
        fullHasItsSegments();
        fullHasItsBestCutting();
        fullHasItsLeastCosts();
        fullHasItsGreedyCutting();
        fullHasAllChanges();
        fullHasItsTruth();
        fullTakesSettings();
        fullIsCleared();
        mostAlarms();
        mostMatches();
        Check.end();
    }

    private static Breakpoint clearedWhenEmpty() {
        Breakpoint x = new Breakpoint();
        x.clear();
        return x;
    }

    private static Breakpoint clearedWhenFull() {
        Breakpoint x = full();
        x.toggleTruth(0);
        x.toggleTruth(119);
        x.greedyCost();
        x.bestCost();
        x.leastCost(119);
        x.clear();
        return x;
    }

    private static Breakpoint setUp() {
        Breakpoint x = new Breakpoint();
        x.setSums(1000, 0, 0);
        x.setTest(0, 0, 0);
        x.setPenalty(0);
        return x;
    }

    private static void isEmpty(String name, Breakpoint x) {
        String of = " of " + name;
        Check.same("P8 size" + of, x.size(), 0);
        Check.missing("P9 value" + of, () -> x.value(0));
        Check.same("P10 highSum" + of, x.highSum(), 0);
        Check.same("P11 lowSum" + of, x.lowSum(), 0);
        Check.same("P12 testSum" + of, x.testSum(), 0);
        Check.same("P13 alarms" + of, x.alarms(), 0);
        Check.missing("P14 alarmKind" + of, () -> x.alarmKind(0));
        Check.missing("P15 alarmNumber" + of, () -> x.alarmNumber(0));
        Check.missing("P16 alarmStart" + of, () -> x.alarmStart(0));
        for (int to = 0; to < 2; to++) {
            int end = to;
            Check.missing("P17 cost up to " + end + of, () -> x.cost(0, end));
            Check.missing("P18 middle up to " + end + of, () -> x.middle(0, end));
        }
        Check.same("P19 changes" + of, x.changes(), 0);
        Check.missing("P20 change" + of, () -> x.change(0));
        Check.same("P21 bestCost" + of, x.bestCost(), 0);
        Check.notNow("P22 leastCost 0" + of, () -> x.leastCost(0));
        Check.notNow("P22 leastCost 119" + of, () -> x.leastCost(119));
        Check.outOfRange("P22 leastCost -1" + of, () -> x.leastCost(-1));
        Check.outOfRange("P22 leastCost 120" + of, () -> x.leastCost(120));
        Check.same("P23 greedyChanges" + of, x.greedyChanges(), 0);
        Check.missing("P24 greedyChange" + of, () -> x.greedyChange(0));
        Check.same("P25 greedyCost" + of, x.greedyCost(), 0);
        Check.missing("P26 toggleTruth" + of, () -> x.toggleTruth(0));
        for (int of012 = 0; of012 < 3; of012++) {
            int kind = of012;
            Check.same("P27 matched" + of, x.matched(kind, 120), 0);
            Check.same("P28 falseAlarms" + of, x.falseAlarms(kind, 120), 0);
            Check.notNow("P29 averageDelay" + of, () -> x.averageDelay(kind, 120));
        }
        Check.same("P2 clear" + of, x.clear(), 0);
        Check.same("P2 clear again" + of, x.clear(), 0);
    }

    private static void emptyTakesSettings() {
        Breakpoint x = new Breakpoint();
        x.setSums(5, 1, 3);
        x.setTest(1, 1000, 6);
        Check.same("P5 setPenalty", x.setPenalty(9), 20);
        Check.same("P3 at the threshold", x.add(9), 0);
        Check.same("P3 above it", x.add(7), 1);
        // sums -1, then -1 + 7 - 8 - 1 = -3, then -3 + 19 - 11 - 1 = 4
        Check.same("P4 above the limit", x.add(19), 5);
    }

    private static void emptyTakesTheFirstValue() {
        for (int value : new int[] {-1000, -6, -5, 0, 5, 6, 1000}) {
            Breakpoint x = clearedWhenEmpty();
            x.setSums(0, 5, 100000);
            Check.same("P6 the first value", x.add(value), 0);
            Check.same("P8 one value", x.size(), 1);
            Check.same("P9 the first value", x.value(0), value);
            Check.same("P10 the first value", x.highSum(), value > 5 ? value - 5 : 0);
            Check.same("P11 the first value", x.lowSum(), value < -5 ? -value - 5 : 0);
            Check.same("P12 the first value", x.testSum(), 0);
            Check.same("P17 one value", x.cost(0, 1), 0);
            Check.same("P18 one value", x.middle(0, 1), value);
            Check.same("P19 one value", x.changes(), 0);
            Check.same("P21 one value", x.bestCost(), 0);
            Check.same("P22 one value", x.leastCost(0), 0);
            Check.notNow("P22 one change of one value", () -> x.leastCost(1));
            Check.same("P23 one value", x.greedyChanges(), 0);
            Check.same("P25 one value", x.greedyCost(), 0);
            Check.same("P26 one value", x.toggleTruth(0), true);
            Check.same("P2 clear of one", x.clear(), 1);
        }
    }

    /** Number i has the value 49 * i % 120: each of 0 to 119 once. */
    private static Breakpoint full() {
        Breakpoint x = Check.quiet();
        for (int number = 0; number < 120; number++) {
            x.add(49 * number % 120);
        }
        return x;
    }

    private static void fullHasItsValues() {
        Breakpoint x = full();
        Check.same("P8 full", x.size(), 120);
        for (int number = 0; number < 120; number++) {
            Check.same("P9 value " + number, x.value(number), 49 * number % 120);
        }
        Check.missing("P9 value 120", () -> x.value(120));
        Check.missing("P9 value -1", () -> x.value(-1));
        Check.notNow("P6 full", () -> x.add(0));
        Check.notNow("P7 full", () -> x.addRun(0, 0, 1));
        Check.same("P8 still full", x.size(), 120);
    }

    private static void fullHasItsSums() {
        Breakpoint x = new Breakpoint();
        x.setSums(0, 0, 100000);
        x.setTest(0, 1000, 100000);
        x.addRun(1, 0, 40);
        x.addRun(1, 0, 40);
        x.addRun(1, 0, 39);
        x.add(121);
        Check.same("P10 full", x.highSum(), 240);
        Check.same("P11 full", x.lowSum(), 0);
        // the mean of 240/120 is 2
        Check.same("P12 full", x.testSum(), 119);
        Check.notNow("P6 full", () -> x.add(5));
        Check.same("P10 behind a refused call", x.highSum(), 240);
        Check.same("P12 behind a refused call", x.testSum(), 119);
        x.setSums(0, 0, 0);
        x.setTest(0, 1000, 0);
        Check.same("P3 P4 the sums of the full object", Check.sums(x), "0 0 0");
        Check.same("P13 no alarm by new settings", x.alarms(), 0);
    }

    private static void fullHasItsAlarms() {
        Breakpoint x = Check.quiet();
        x.setSums(0, 0, 9);
        x.addRun(0, 0, 40);
        x.addRun(0, 0, 40);
        x.addRun(0, 0, 39);
        Check.same("P6 alarm with the last value", x.add(-10), 2);
        Check.same("P14 P15 P16 the last value", Check.alarms(x), "1@119<119");
        Check.missing("P14 alarm 1", () -> x.alarmKind(1));
        Check.missing("P15 alarm 1", () -> x.alarmNumber(1));
        Check.missing("P16 alarm 1", () -> x.alarmStart(1));
    }

    private static void fullHasItsSegments() {
        Breakpoint x = full();
        // 59 + 58 + .. + 1 below the middle, 1 + 2 + .. + 60 above it
        Check.same("P17 all", x.cost(0, 120), 3600);
        Check.same("P18 all", x.middle(0, 120), 59);
        // without the first value, which is 0, the places are those of 1 to 119
        Check.same("P17 from 1", x.cost(1, 120), 3540);
        Check.same("P18 from 1", x.middle(1, 120), 60);
        // without the last value, which is 71
        Check.same("P17 up to 119", x.cost(0, 119), 3588);
        Check.same("P18 up to 119", x.middle(0, 119), 59);
        Check.same("P17 the last value", x.cost(119, 120), 0);
        Check.same("P18 the last value", x.middle(119, 120), 71);
        Check.missing("P17 up to 121", () -> x.cost(0, 121));
        Check.missing("P18 up to 121", () -> x.middle(0, 121));
        Check.missing("P17 from 120", () -> x.cost(120, 121));
        Check.missing("P18 from 120", () -> x.middle(120, 121));
        Check.missing("P17 from 120 to 120", () -> x.cost(120, 120));
        Check.missing("P18 from 120 to 120", () -> x.middle(120, 120));
    }

    /** 40 values 0, then 40 values 100, then 40 values 30. */
    private static Breakpoint inThrees() {
        Breakpoint x = Check.quiet();
        x.addRun(0, 0, 40);
        x.addRun(100, 0, 40);
        x.addRun(30, 0, 40);
        return x;
    }

    private static void fullHasItsBestCutting() {
        Breakpoint x = inThrees();
        Check.same("P20 full", Check.changes(x), "40 80");
        Check.same("P21 full", x.bestCost(), 40);
        Check.missing("P20 change 2", () -> x.change(2));
        x.setPenalty(1200);
        // cut at 40 and 80: 2400; cut at 80 alone: 1200 + 4000; at 40 alone: 1200 + 2800; not at all: 4000
        Check.same("P20 full, penalty 1200", Check.changes(x) + " " + x.bestCost(), "40 80 2400");
        x.setPenalty(2000);
        Check.same("P20 full, penalty 2000", Check.changes(x) + " " + x.bestCost(), " 4000");
        x.setPenalty(1999);
        Check.same("P20 full, penalty 1999", Check.changes(x) + " " + x.bestCost(), "40 80 3998");
    }

    private static void fullHasItsLeastCosts() {
        Breakpoint x = inThrees();
        Check.same("P22 full, 0 changes", x.leastCost(0), 4000);
        Check.same("P22 full, 1 change", x.leastCost(1), 2800);
        Check.same("P22 full, 2 changes", x.leastCost(2), 0);
        Check.same("P22 full, 119 changes", x.leastCost(119), 0);
        Check.outOfRange("P22 full, 120 changes", () -> x.leastCost(120));
        Check.outOfRange("P22 full, -1 changes", () -> x.leastCost(-1));
    }

    private static void fullHasItsGreedyCutting() {
        Breakpoint x = inThrees();
        Check.same("P24 full", Check.greedyChanges(x), "40 80");
        Check.same("P25 full", x.greedyCost(), 40);
        Check.missing("P24 greedyChange 2", () -> x.greedyChange(2));
        x.setPenalty(1200);
        // the first cut, at 40, gains 4000 - 2800, just the penalty
        Check.same("P24 full, penalty 1200", Check.greedyChanges(x) + " " + x.greedyCost(), " 4000");
        x.setPenalty(1199);
        Check.same("P24 full, penalty 1199", Check.greedyChanges(x) + " " + x.greedyCost(), "40 80 2398");
    }

    private static void fullHasAllChanges() {
        Breakpoint x = full();
        x.setPenalty(0);
        Check.same("P19 full, all changes", x.changes(), 119);
        Check.same("P20 full, the first", x.change(0), 1);
        Check.same("P20 full, the last", x.change(118), 119);
        Check.missing("P20 full, behind the last", () -> x.change(119));
        Check.same("P21 full, all changes", x.bestCost(), 0);
        Check.same("P23 full, all changes", x.greedyChanges(), 119);
        Check.same("P24 full, the first", x.greedyChange(0), 1);
        Check.same("P24 full, the last", x.greedyChange(118), 119);
        Check.missing("P24 full, behind the last", () -> x.greedyChange(119));
        Check.same("P25 full, all changes", x.greedyCost(), 0);
    }

    private static void fullHasItsTruth() {
        Breakpoint x = full();
        Check.same("P26 the last value", x.toggleTruth(119), true);
        Check.same("P26 the first value", x.toggleTruth(0), true);
        Check.missing("P26 120", () -> x.toggleTruth(120));
        Check.missing("P26 -1", () -> x.toggleTruth(-1));
        Check.same("P26 the last value again", x.toggleTruth(119), false);
    }

    private static void fullTakesSettings() {
        Breakpoint x = full();
        x.setSums(1000, 0, 0);
        x.setTest(0, 1000, 0);
        Check.same("P5 full", x.setPenalty(1), 20);
        Check.same("P8 full behind settings", x.size(), 120);
        Check.same("P2 full", x.clear(), 120);
        Check.same("P3 the new settings", x.add(999), 2);
        Check.same("P4 the new settings", x.add(1000), 4);
        Check.same("P5 the new settings", x.setPenalty(1), 1);
    }

    private static void fullIsCleared() {
        Breakpoint x = full();
        Check.same("P2 full", x.clear(), 120);
        Check.same("P8 behind clear", x.size(), 0);
        Check.missing("P9 behind clear", () -> x.value(119));
        x.addRun(3, 0, 40);
        x.addRun(4, 0, 40);
        x.addRun(5, 0, 40);
        Check.same("P8 full again", x.size(), 120);
        Check.same("P9 full again", x.value(0) + " " + x.value(119), "3 5");
        Check.same("P17 full again", x.cost(0, 120), 80);
        Check.same("P22 full again", x.leastCost(1), 40);
        Check.notNow("P6 full again", () -> x.add(0));
    }

    /** A sum with each value, and the test with each other one: its first value is its own mean. */
    private static void mostAlarms() {
        Breakpoint x = new Breakpoint();
        x.setSums(-1000, 0, 0);
        x.setTest(0, 1000, 0);
        Check.same("P7 40 and 20", x.addRun(0, 1, 40), 60);
        Check.same("P7 80 and 40", x.addRun(40, 1, 40), 60);
        Check.same("P7 120 and 60", x.addRun(80, 1, 40), 60);
        Check.same("P13 most alarms", x.alarms(), 180);
        Check.same("P14 the last but one", x.alarmKind(178) + "@" + x.alarmNumber(178) + "<" + x.alarmStart(178),
                "0@119<119");
        Check.same("P16 the last one", x.alarmKind(179) + "@" + x.alarmNumber(179) + "<" + x.alarmStart(179),
                "2@119<118");
        Check.missing("P14 alarm 180", () -> x.alarmKind(180));
        Check.missing("P15 alarm 180", () -> x.alarmNumber(180));
        Check.missing("P16 alarm 180", () -> x.alarmStart(180));
    }

    /** Each value has an alarm of kind 0, and each is marked. */
    private static void mostMatches() {
        Breakpoint x = Check.quiet();
        x.setSums(-1000, 0, 0);
        x.addRun(0, 0, 40);
        x.addRun(0, 0, 40);
        x.addRun(0, 0, 40);
        Check.same("P28 none is marked", x.falseAlarms(0, 120), 120);
        for (int number = 0; number < 120; number++) {
            x.toggleTruth(number);
        }
        Check.same("P27 all are matched", x.matched(0, 120), 120);
        Check.same("P28 all are matched", x.falseAlarms(0, 120), 0);
        Check.same("P29 all are matched", x.averageDelay(0, 120), 0.0f);
        for (int number = 60; number < 120; number++) {
            x.toggleTruth(number);
        }
        // 60 takes nothing of its own: all of 0 to 59 are matched already
        Check.same("P27 half are marked", x.matched(0, 120), 60);
        Check.same("P28 half are marked", x.falseAlarms(0, 120), 60);
    }
}
