/** Promises 1 to 5: a new object, clear, setSums, setTest, setPenalty. */
public final class SettingsTest {
    private SettingsTest() {
    }

    public static void main(String[] args) {
        newObjectIsEmpty();
        newObjectHasItsSums();
        newObjectHasItsTest();
        newObjectHasItsPenalty();
        objectsAreApart();
        clearRemovesAll();
        clearKeepsTheSettings();
        clearBeginsTheSumsAnew();
        setSumsKeepsTheSettingsIfRefused();
        setSumsSetsUpTheSums();
        setSumsBeginsTheSumsAnew();
        setTestKeepsTheSettingsIfRefused();
        setTestSetsUpTheTest();
        setTestBeginsTheTestAnew();
        setPenaltyAnswersTheOneBefore();
        setPenaltyCountsForTheCuttings();
        Check.end();
    }

    private static void newObjectIsEmpty() {
        Breakpoint x = new Breakpoint();
        Check.same("P1 size", x.size(), 0);
        Check.same("P1 alarms", x.alarms(), 0);
        Check.same("P1 picture", Check.picture(x),
                "values sums 0 0 0 alarms  best  0 greedy  0 least truth 0 0 0 0 0 0 0 0 0");
    }

    private static void newObjectHasItsSums() {
        Breakpoint x = new Breakpoint();
        Check.same("P1 target 0, slack 5, threshold 50", x.add(55), 0);
        Check.same("P1 highSum", x.highSum(), 50);
        Check.same("P1 above the threshold", new Breakpoint().add(56), 1);
        x = new Breakpoint();
        Check.same("P1 threshold for the low sum", x.add(-55), 0);
        Check.same("P1 lowSum", x.lowSum(), 50);
        Check.same("P1 below", new Breakpoint().add(-56), 2);
    }

    private static void newObjectHasItsTest() {
        Breakpoint x = Check.with(0, 0, 0, 20, 20);
        // sums -5 -10 -15, then -15 + 20 - 5 - 5 = -5, then -5 + 20 - 8 - 5 = 2
        Check.same("P1 allowance 5, forgetting 1000", x.testSum(), 17);
        x = Check.with(0);
        x.setSums(0, 5, 100000);
        Check.same("P1 limit 50", x.add(110), 0);
        Check.same("P1 testSum", x.testSum(), 50);
        x = Check.with(0);
        x.setSums(0, 5, 100000);
        Check.same("P1 above the limit", x.add(111), 4);
    }

    private static void newObjectHasItsPenalty() {
        Check.same("P1 penalty", new Breakpoint().setPenalty(3), 20);
        Check.same("P1 gain of the penalty", Check.with(0, 20).changes(), 0);
        Check.same("P1 gain above the penalty", Check.with(0, 21).changes(), 1);
    }

    private static void objectsAreApart() {
        Breakpoint x = Check.with(1, 100, 3);
        Breakpoint y = new Breakpoint();
        Check.same("P1 another object", y.size(), 0);
        y.add(7);
        y.setPenalty(5);
        Check.same("P1 the first object's value", x.value(0), 1);
        Check.same("P1 the first object's penalty", x.setPenalty(1), 20);
    }

    private static void clearRemovesAll() {
        Breakpoint x = Check.with(0, 0, 100, 3, 200);
        x.toggleTruth(0);
        x.toggleTruth(2);
        Check.same("P2 matched ahead", x.matched(0, 5), 2);
        Check.same("P2 changes ahead", x.changes(), 3);
        Check.same("P2 greedyChanges ahead", x.greedyChanges(), 1);
        Check.same("P2 clear", x.clear(), 5);
        Check.same("P2 picture", Check.picture(x), Check.picture(new Breakpoint()));
        Check.missing("P2 value", () -> x.value(0));
        Check.missing("P2 alarm", () -> x.alarmKind(0));
        Check.missing("P2 change", () -> x.change(0));
        Check.same("P2 clear again", x.clear(), 0);
        Check.addAll(x, 0, 0, 100);
        Check.same("P2 no marks", x.matched(0, 120), 0);
        Check.same("P2 falseAlarms", x.falseAlarms(0, 120), 1);
        Check.same("P2 toggleTruth", x.toggleTruth(2), true);
        Check.same("P2 the new values' cost", x.cost(0, 3), 100);
    }

    private static void clearKeepsTheSettings() {
        Breakpoint x = new Breakpoint();
        x.setSums(10, 1, 7);
        x.setTest(2, 500, 9);
        x.setPenalty(33);
        x.add(5);
        x.clear();
        Check.same("P2 penalty", x.setPenalty(33), 33);
        Check.same("P2 sums", x.add(18), 0);
        Check.same("P2 highSum", x.highSum(), 7);
        // sums of the test: -2, then -1 + 40 - 29 - 2 = 8 above the least one by 10
        Check.same("P2 test", x.add(40), 5);
    }

    private static void clearBeginsTheSumsAnew() {
        Breakpoint x = Check.with(10, 10, -3, 30);
        Check.same("P2 highSum ahead", x.highSum(), 27);
        Check.same("P2 testSum ahead", x.testSum(), 14);
        x.clear();
        Check.addAll(x, 0, 20);
        Check.same("P2 highSum", x.highSum(), 15);
        Check.same("P2 testSum", x.testSum(), 5);
        x.clear();
        Check.addAll(x, 10, -40);
        x.clear();
        Check.addAll(x, 0, 30, 30);
        Check.same("P2 alarms", Check.alarms(x), "");
        x.add(30);
        Check.same("P2 starts", Check.alarms(x), "0@3<1");
    }

    private static void setSumsKeepsTheSettingsIfRefused() {
        Breakpoint y = new Breakpoint();
        Check.thrownBy(() -> y.setSums(-40, 0, -1));
        Check.thrownBy(() -> y.setSums(-40, 1001, 10));
        Check.same("P3 settings stay", y.add(30), 0);
        Check.same("P3 highSum", y.highSum(), 25);
    }

    private static void setSumsSetsUpTheSums() {
        Breakpoint x = new Breakpoint();
        x.setSums(10, 2, 6);
        Check.same("P3 add", x.add(18), 0);
        Check.same("P3 highSum at the threshold", x.highSum(), 6);
        Check.same("P3 alarm", x.add(13), 1);
        Check.same("P3 low", x.add(2), 0);
        Check.same("P3 lowSum at the threshold", x.lowSum(), 6);
        Check.same("P3 low alarm", x.add(7), 2);
        Check.same("P3 alarms", Check.alarms(x), "0@1<0 1@3<2");
    }

    private static void setSumsBeginsTheSumsAnew() {
        Breakpoint x = Check.with(0, 30);
        int test = x.testSum();
        x.setSums(0, 5, 50);
        Check.same("P3 highSum", x.highSum(), 0);
        Check.same("P3 testSum stays", x.testSum(), test);
        Check.same("P3 size stays", x.size(), 2);
        Check.addAll(x, 30, 31);
        Check.same("P3 start behind new settings", Check.alarms(x), "0@3<2");
        x.add(-30);
        x.setSums(0, 5, 50);
        Check.same("P3 lowSum", x.lowSum(), 0);
        Check.same("P3 alarms stay", x.alarms(), 1);
        Check.addAll(x, -30, -31);
        Check.same("P3 start of the low sum", Check.alarms(x), "0@3<2 1@6<5");
    }

    private static void setTestKeepsTheSettingsIfRefused() {
        Breakpoint y = Check.with(0, 0);
        Check.thrownBy(() -> y.setTest(100, 100, -1));
        Check.thrownBy(() -> y.setTest(100, 1001, 1));
        y.add(20);
        // sums -5 -10, then -10 + 20 - 6 - 5 = -1
        Check.same("P4 settings and sums stay", y.testSum(), 9);
    }

    private static void setTestSetsUpTheTest() {
        Breakpoint x = Check.quiet();
        x.setTest(5, 500, 6);
        Check.addAll(x, 0, 0);
        Check.same("P4 testSum", x.testSum(), 0);
        // sums -5, then -2 - 5 = -7, then -3 + 10 - 3 - 5 = -1: both halves rounded towards 0
        Check.same("P4 at the limit", x.add(10), 0);
        Check.same("P4 testSum of halves", x.testSum(), 6);
        // 0 + 7 - 4 - 5 = -2, then -1 + 9 - 5 - 5 = -2, then -1 + 13 - 6 - 5 = 1
        Check.addAll(x, 7, 9);
        Check.same("P4 testSum later", x.testSum(), 5);
        Check.same("P4 above the limit", x.add(13), 4);
        x.setTest(0, 0, 100000);
        Check.addAll(x, 0, 10);
        Check.same("P4 nothing kept", x.testSum(), 5);
        x.add(2);
        Check.same("P4 nothing kept of the 5", x.testSum(), 0);
    }

    private static void setTestBeginsTheTestAnew() {
        Breakpoint x = Check.with(0, 0, 40);
        Check.same("P4 testSum ahead", x.testSum(), 22);
        int high = x.highSum();
        x.setTest(5, 1000, 50);
        Check.same("P4 testSum", x.testSum(), 0);
        Check.same("P4 highSum stays", x.highSum(), high);
        x.setSums(0, 1000, 100000);
        Check.addAll(x, 10, 30);
        // sums -5, then -5 + 30 - 20 - 5 = 0: neither total nor count of the values ahead
        Check.same("P4 testSum of the values behind", x.testSum(), 5);
        x.setTest(0, 1000, 4);
        Check.addAll(x, 10, 20);
        Check.same("P4 start is the first value counted", Check.alarms(x), "2@6<5");
    }

    private static void setPenaltyAnswersTheOneBefore() {
        Breakpoint x = new Breakpoint();
        Check.same("P5 first", x.setPenalty(0), 20);
        Check.same("P5 second", x.setPenalty(100000), 0);
        Check.same("P5 third", x.setPenalty(7), 100000);
        Check.same("P5 fourth", x.setPenalty(7), 7);
    }

    private static void setPenaltyCountsForTheCuttings() {
        Breakpoint x = Check.quiet(0, 0, 9, 18, 18);
        int[] penalties = {0, 8, 9, 26, 27, 100000};
        String[] best = {"2 3 0", "2 3 16", "2 18", "2 35", " 36", " 36"};
        String[] greedy = {"2 3 0", "2 3 16", "2 18", "2 35", " 36", " 36"};
        for (int i = 0; i < penalties.length; i++) {
            x.setPenalty(penalties[i]);
            Check.same("P5 best of " + penalties[i], Check.changes(x) + " " + x.bestCost(), best[i]);
            Check.same("P5 greedy of " + penalties[i], Check.greedyChanges(x) + " " + x.greedyCost(), greedy[i]);
        }
    }
}
