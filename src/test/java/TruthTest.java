/** Promises 26 to 29: marks of true changes, and the matching of alarms with them. */
public final class TruthTest {
    private TruthTest() {
    }

    public static void main(String[] args) {
        toggleTruthMarksAndUnmarks();
        toggleTruthLeavesAllElse();
        latestFreeChangeIsMatched();
        windowEndsAtItsEdge();
        changesBehindAnAlarmDoNotCount();
        eachKindIsMatchedByItself();
        marksCountAtOnce();
        averageIsAFloat();
        noneIsMatched();
        wideWindows();
        Check.end();
    }

    /** An alarm of kind 0 with each value above 0, one of kind 1 with each below, none of kind 2. */
    private static Breakpoint alarmed(int... values) {
        Breakpoint x = new Breakpoint();
        x.setSums(0, 0, 0);
        x.setTest(1000, 0, 100000);
        Check.addAll(x, values);
        return x;
    }

    private static void mark(Breakpoint x, int... numbers) {
        for (int number : numbers) {
            x.toggleTruth(number);
        }
    }

    private static String matching(Breakpoint x, int kind, int window) {
        String delay = x.matched(kind, window) == 0 ? "" : " " + x.averageDelay(kind, window);
        return x.matched(kind, window) + " " + x.falseAlarms(kind, window) + delay;
    }

    private static void toggleTruthMarksAndUnmarks() {
        Breakpoint x = alarmed(0, 0, 1);
        Check.same("P26 first", x.toggleTruth(1), true);
        Check.same("P26 matched", x.matched(0, 5), 1);
        Check.same("P26 another", x.toggleTruth(2), true);
        Check.same("P26 second", x.toggleTruth(1), false);
        Check.same("P26 third", x.toggleTruth(1), true);
        Check.same("P26 another again", x.toggleTruth(2), false);
        Check.same("P26 and the first", x.toggleTruth(1), false);
        Check.same("P26 none matched", x.matched(0, 5), 0);
        Check.same("P26 the first value", x.toggleTruth(0), true);
    }

    private static void toggleTruthLeavesAllElse() {
        Breakpoint x = Check.with(0, 0, 20, 60, 60, -30, -3);
        String before = Check.picture(x);
        Check.same("P26 marks", x.toggleTruth(3) + " " + x.toggleTruth(5), "true true");
        Check.same("P10 P11 P12 behind marks", Check.sums(x), "0 23 9");
        Check.same("P13 behind marks", Check.alarms(x), "0@3<2 0@4<4 2@4<2");
        Check.same("P20 behind marks", Check.changes(x) + " " + x.bestCost(), "3 5 6 80");
        Check.same("P24 behind marks", Check.greedyChanges(x) + " " + x.greedyCost(), "3 5 6 80");
        Check.same("P26 marks are taken away", x.toggleTruth(3) + " " + x.toggleTruth(5), "false false");
        Check.same("P26 all as before", Check.picture(x), before);
    }

    private static void latestFreeChangeIsMatched() {
        Breakpoint x = alarmed(0, 0, 0, 0, 0, 0, 1, 1, 1);
        mark(x, 3, 5);
        // number 6 takes 5, number 7 takes 3, number 8 finds none
        Check.same("P27 P28 P29 wide", matching(x, 0, 10), "2 1 2.5");
        mark(x, 7);
        // number 7 takes 7, number 8 takes 3
        Check.same("P27 P28 P29 with 7", matching(x, 0, 10), "3 0 2.0");
        Check.same("P27 again", matching(x, 0, 10), "3 0 2.0");
    }

    private static void windowEndsAtItsEdge() {
        Breakpoint x = alarmed(0, 0, 0, 0, 0, 0, 1, 1, 1);
        mark(x, 3, 5);
        Check.same("P27 P28 P29 window 4", matching(x, 0, 4), "2 1 2.5");
        Check.same("P27 P28 P29 window 3", matching(x, 0, 3), "1 2 1.0");
        Check.same("P27 P28 window 0", matching(x, 0, 0), "0 3");
        mark(x, 8);
        Check.same("P27 P28 P29 window 0 at the number", matching(x, 0, 0), "1 2 0.0");
    }

    private static void changesBehindAnAlarmDoNotCount() {
        Breakpoint x = alarmed(0, 1, 0, 0, 0);
        mark(x, 2, 3, 4);
        Check.same("P27 P28 behind", matching(x, 0, 120), "0 1");
        mark(x, 1);
        Check.same("P27 P28 P29 at", matching(x, 0, 120), "1 0 0.0");
        mark(x, 1, 0);
        Check.same("P27 P28 P29 ahead", matching(x, 0, 120), "1 0 1.0");
    }

    private static void eachKindIsMatchedByItself() {
        Breakpoint x = alarmed(0, 1, -1, -1, 1, 0);
        mark(x, 1);
        Check.same("P27 P28 P29 kind 0", matching(x, 0, 9), "1 1 0.0");
        Check.same("P27 P28 P29 kind 1", matching(x, 1, 9), "1 1 1.0");
        mark(x, 3);
        Check.same("P27 P28 P29 kind 0 with 3", matching(x, 0, 9), "2 0 0.5");
        Check.same("P27 P28 P29 kind 1 with 3", matching(x, 1, 9), "2 0 0.5");
        Check.same("P27 P28 kind 2", matching(x, 2, 9), "0 0");
        x.setTest(0, 1000, 0);
        Check.addAll(x, 0, 2);
        Check.same("P27 P28 P29 kind 2 now", matching(x, 2, 9), "1 0 4.0");
    }

    private static void marksCountAtOnce() {
        Breakpoint x = alarmed(0, 0, 1);
        Check.same("P28 false", matching(x, 0, 2), "0 1");
        mark(x, 0);
        Check.same("P27 marked", matching(x, 0, 2), "1 0 2.0");
        x.add(1);
        Check.same("P28 a new alarm", matching(x, 0, 2), "1 1 2.0");
        mark(x, 0);
        Check.same("P28 unmarked", matching(x, 0, 2), "0 2");
    }

    private static void averageIsAFloat() {
        Breakpoint x = alarmed(1, 1, 0, 1);
        mark(x, 0, 1, 2);
        // delays 0, 0 and 1
        Check.same("P29 a third", x.averageDelay(0, 5), 1.0f / 3.0f);
        Check.same("P29 as a float", (double) x.averageDelay(0, 5), 0.3333333432674408);
    }

    private static void noneIsMatched() {
        Breakpoint none = new Breakpoint();
        Check.same("P27 no values", none.matched(0, 0), 0);
        Check.same("P28 no values", none.falseAlarms(2, 120), 0);
        Check.notNow("P29 no values", () -> none.averageDelay(0, 0));
        Breakpoint x = alarmed(0, 1, 0);
        Check.notNow("P29 no marks", () -> x.averageDelay(0, 120));
        mark(x, 0);
        Check.notNow("P29 window too small", () -> x.averageDelay(0, 0));
        Check.notNow("P29 no alarms of the kind", () -> x.averageDelay(1, 120));
        Check.same("P29 now", x.averageDelay(0, 1), 1.0f);
    }

    private static void wideWindows() {
        Breakpoint x = alarmed();
        x.addRun(0, 0, 40);
        x.addRun(0, 0, 40);
        x.addRun(0, 0, 39);
        x.add(5);
        mark(x, 0);
        Check.same("P27 P28 P29 119 back", matching(x, 0, 119), "1 0 119.0");
        Check.same("P27 P28 118 back", matching(x, 0, 118), "0 1");
        Check.same("P27 P28 P29 window 120", matching(x, 0, 120), "1 0 119.0");
        mark(x, 119);
        Check.same("P27 P28 P29 the last value", matching(x, 0, 120), "1 0 0.0");
    }
}
