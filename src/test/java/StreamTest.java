/** Promises 6 to 16: the values, the sums of the detectors, and the alarms. */
public final class StreamTest {
    private StreamTest() {
    }

    public static void main(String[] args) {
        addAnswersTheKinds();
        addRunAddsEqualSteps();
        addRunAnswersTheAlarms();
        sizeCountsValues();
        valueAnswersEachValue();
        sumsMoveBothWays();
        bothSumsEndBehindAnAlarm();
        testSumIsAboveTheLeast();
        testRoundsDownTheMean();
        testRoundsTheSumTowardsZero();
        testBeginsAnewBehindItsAlarm();
        alarmsComeInOrder();
        startsOfTheSums();
        startsOfTheTest();
        Check.end();
    }

    private static void addAnswersTheKinds() {
        Breakpoint x = new Breakpoint();
        x.setSums(0, 0, 10);
        x.setTest(0, 1000, 100000);
        Check.same("P6 none", x.add(10), 0);
        Check.same("P6 kind 0", x.add(1), 1);
        Check.same("P6 none behind the alarm", x.add(-10), 0);
        Check.same("P6 kind 1", x.add(-1), 2);
        x = new Breakpoint();
        x.setSums(1000, 0, 0);
        x.setTest(0, 1000, 0);
        Check.same("P6 kind 1 alone", x.add(0), 2);
        Check.same("P6 kinds 1 and 2", x.add(10), 6);
        Check.same("P6 alarms", Check.alarms(x), "1@0<0 1@1<1 2@1<0");
        x = Check.with(0);
        Check.same("P6 kinds 0 and 2", x.add(111), 5);
        x = Check.quiet(0);
        x.setTest(0, 1000, 0);
        x.add(0);
        Check.same("P6 kind 2 alone", x.add(1), 4);
    }

    private static void addRunAddsEqualSteps() {
        Breakpoint x = Check.quiet(4);
        Check.same("P7 alarms", x.addRun(-3, 2, 4), 0);
        x.addRun(7, -1000, 2);
        x.addRun(1000, 1000, 1);
        x.addRun(-1000, -1000, 1);
        x.addRun(-1000, 1000, 3);
        x.addRun(8, 0, 2);
        Check.same("P7 values", Check.picture(x).substring(0, 58),
                "values 4 -3 -1 1 3 7 -993 1000 -1000 -1000 0 1000 8 8 sums");
        x.addRun(-1000, 51, 40);
        Check.same("P7 40 values", x.size(), 54);
        Check.same("P7 last value", x.value(53), 989);
    }

    private static void addRunAnswersTheAlarms() {
        Breakpoint x = new Breakpoint();
        Check.same("P7 one alarm", x.addRun(20, 0, 4), 1);
        Check.same("P7 alarms", Check.alarms(x), "0@3<0");
        Check.same("P7 none", x.addRun(0, 0, 5), 0);
        x = new Breakpoint();
        x.setSums(0, 0, 0);
        x.setTest(0, 1000, 0);
        Check.same("P7 two alarms a value", x.addRun(1, 1, 4), 6);
        Check.same("P7 kinds", Check.alarms(x), "0@0<0 0@1<1 2@1<0 0@2<2 0@3<3 2@3<2");
        Check.same("P7 only the new ones", x.addRun(-1, 0, 3), 3);
    }

    private static void sizeCountsValues() {
        Breakpoint x = Check.quiet();
        Check.same("P8 none", x.size(), 0);
        x.add(5);
        Check.same("P8 one", x.size(), 1);
        x.addRun(0, 3, 11);
        Check.same("P8 twelve", x.size(), 12);
        Check.same("P8 again", x.size(), 12);
    }

    private static void valueAnswersEachValue() {
        Breakpoint x = Check.with();
        Check.missing("P9 none", () -> x.value(0));
        Check.addAll(x, 6, -7, 0);
        Check.same("P9 values", x.value(0) + " " + x.value(1) + " " + x.value(2), "6 -7 0");
        for (int wrong : new int[] {3, -1, 119, 120, Integer.MAX_VALUE, Integer.MIN_VALUE}) {
            Check.missing("P9 value " + wrong, () -> x.value(wrong));
        }
        x.clear();
        Check.missing("P9 value of before", () -> x.value(0));
    }

    private static void sumsMoveBothWays() {
        Breakpoint x = new Breakpoint();
        x.setSums(10, 3, 1000);
        int[] values = {20, 14, 11, 0, -5, 12, 40};
        int[] high = {7, 8, 6, 0, 0, 0, 27};
        int[] low = {0, 0, 0, 7, 19, 14, 0};
        for (int i = 0; i < values.length; i++) {
            x.add(values[i]);
            Check.same("P10 highSum " + i, x.highSum(), high[i]);
            Check.same("P11 lowSum " + i, x.lowSum(), low[i]);
        }
    }

    private static void bothSumsEndBehindAnAlarm() {
        Breakpoint x = new Breakpoint();
        x.setSums(0, 0, 20);
        Check.addAll(x, 15, -4);
        Check.same("P10 both grow", x.highSum(), 11);
        Check.same("P11 both grow", x.lowSum(), 4);
        Check.same("P10 alarm", x.add(-25), 2);
        Check.same("P10 highSum", x.highSum(), 0);
        Check.same("P11 lowSum", x.lowSum(), 0);
        x.setSums(0, 0, 20);
        Check.addAll(x, -15, 4);
        Check.same("P11 alarm", x.add(25), 1);
        Check.same("P11 lowSum behind kind 0", x.lowSum(), 0);
        Check.same("P10 highSum behind kind 0", x.highSum(), 0);
        x.setSums(0, 0, 20);
        x.setTest(0, 1000, 2);
        Check.addAll(x, 0, 9);
        Check.same("P10 highSum behind kind 2", x.highSum(), 9);
    }

    private static void testSumIsAboveTheLeast() {
        Breakpoint x = Check.quiet();
        x.setTest(2, 1000, 1000);
        int[] values = {10, 10, 1, 30, 30, 0};
        // means 10 10 7 12 16 13, sums -2 -4 -12 4 16 1
        int[] above = {0, 0, 0, 16, 28, 13};
        for (int i = 0; i < values.length; i++) {
            x.add(values[i]);
            Check.same("P12 testSum " + i, x.testSum(), above[i]);
        }
    }

    private static void testRoundsDownTheMean() {
        Breakpoint x = Check.quiet();
        x.setTest(0, 1000, 1000);
        x.add(-1);
        Check.same("P12 one value", x.testSum(), 0);
        x.add(0);
        Check.same("P12 mean of -1/2 is -1", x.testSum(), 1);
        x.add(-3);
        // mean of -4/3 is -2: 1 - 3 + 2 = 0
        Check.same("P12 mean of -4/3 is -2", x.testSum(), 0);
        x.add(5);
        Check.same("P12 mean of 1/4 is 0", x.testSum(), 5);
    }

    private static void testRoundsTheSumTowardsZero() {
        Breakpoint x = Check.quiet();
        x.setTest(1, 999, 1000);
        Check.addAll(x, 0, 0, 0);
        // sums -1, then 0 - 1 = -1: -999/1000 is 0; the least one stays -1
        Check.same("P12 testSum", x.testSum(), 0);
        x.add(4);
        // 0 + 4 - 1 - 1 = 2
        Check.same("P12 above -1", x.testSum(), 3);
        x.add(1);
        // 1998/1000 is 1: 1 + 1 - 1 - 1 = 0
        Check.same("P12 rounded down above 0", x.testSum(), 1);
    }

    private static void testBeginsAnewBehindItsAlarm() {
        Breakpoint x = Check.quiet();
        x.setTest(1, 1000, 3);
        Check.addAll(x, 4, 4, 20);
        Check.same("P12 alarm", Check.alarms(x), "2@2<2");
        Check.same("P12 testSum behind it", x.testSum(), 0);
        Check.addAll(x, 50, 50, 51);
        // sums -1 -2, then -2 + 51 - 50 - 1 = -2
        Check.same("P12 no count of before", x.testSum(), 0);
        x.add(54);
        Check.same("P12 at the limit", x.testSum(), 2);
        x.add(100);
        Check.same("P12 second alarm", Check.alarms(x), "2@2<2 2@7<5");
    }

    private static void alarmsComeInOrder() {
        Breakpoint x = new Breakpoint();
        Check.same("P13 none", x.alarms(), 0);
        Check.addAll(x, 0, 111, 0, -56, 60);
        Check.same("P13 alarms", x.alarms(), 5);
        int[] kinds = {0, 2, 1, 0, 2};
        int[] numbers = {1, 1, 3, 4, 4};
        int[] starts = {1, 1, 3, 4, 4};
        for (int alarm = 0; alarm < 5; alarm++) {
            Check.same("P14 alarmKind " + alarm, x.alarmKind(alarm), kinds[alarm]);
            Check.same("P15 alarmNumber " + alarm, x.alarmNumber(alarm), numbers[alarm]);
            Check.same("P16 alarmStart " + alarm, x.alarmStart(alarm), starts[alarm]);
        }
    }

    private static void startsOfTheSums() {
        Breakpoint x = new Breakpoint();
        x.setSums(10, 0, 5);
        x.setTest(1000, 0, 100000);
        Check.addAll(x, 12, 12, 12, 9, 10, 11, 3);
        Check.same("P16 starts", Check.alarms(x), "0@2<0 1@6<6");
        // a value that leaves the sum at 0 does not begin it
        Check.addAll(x, 10, 10, 12, 10, 14);
        Check.same("P16 start behind zeros", Check.alarms(x).substring(12), "0@11<9");
        // back to 0 on the way
        Check.addAll(x, 13, 7, 14, 12);
        Check.same("P16 start behind a fall to 0", Check.alarms(x).substring(19), "0@15<14");
        // behind an alarm of the other kind too
        Check.addAll(x, 8, 20, 8, 6);
        Check.same("P16 start behind the other kind", Check.alarms(x).substring(27), "0@17<17 1@19<18");
    }

    private static void startsOfTheTest() {
        Breakpoint x = Check.quiet();
        x.setTest(0, 1000, 4);
        Check.addAll(x, 5, 5, 15);
        Check.same("P16 least sum as at first", Check.alarms(x), "2@2<0");
        Check.addAll(x, 5, 5, 15);
        Check.same("P16 the first value counted", Check.alarms(x), "2@2<0 2@5<3");
        Check.addAll(x, 5, 1, 1, 3);
        // sums 0 -2 -3 -2: least with number 8
        x.add(10);
        Check.same("P16 behind the least sum", Check.alarms(x), "2@2<0 2@5<3 2@10<9");
        Check.addAll(x, 6, 2, 3, 30);
        // sums 0 -2 -2: the least one is found with number 12, and number 13 is no less
        Check.same("P16 the first of equal least sums", Check.alarms(x), "2@2<0 2@5<3 2@10<9 2@14<13");
    }
}
