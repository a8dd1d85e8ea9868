/** The boundary cases that the document's Terms tell, a test for each sentence. */
public final class TermsTest {
    private TermsTest() {
    }

    public static void main(String[] args) {
        sumsBecomeZeroInsteadOfLess();
        sumsOfTheFarthestFall();
        alarmsOfSumsAboveTheThreshold();
        bothSumsBecomeZeroBehindEitherKind();
        startIsTheFirstValue();
        startIsBehindTheLastZero();
        startIsBehindAZeroOfItsOwnSum();
        startIsBehindAnAlarmOfEitherKind();
        startIsBehindNewSettings();
        startIsNotMovedByTheTest();
        meanIsRoundedDown();
        sumIsRoundedTowardsZero();
        sumFarBelowZero();
        leastSumIsTheFirstOfEqualOnes();
        alarmsOfTheTestAboveTheLimit();
        testBeginsAnewBehindItsAlarmAlone();
        startBehindTheLeastSum();
        startWhereTheLeastSumIsZeroAsAtFirst();
        settingsOfOneDetectorLeaveTheOther();
        lowerKindFirst();
        middleOfOneToFive();
        middleSortsInRisingOrder();
        costIsOfAbsoluteDifferences();
        bestOfEqualCostsHasTheFewestChanges();
        bestOfEqualCountsIsEarlierAtTheFirstPlace();
        greedyGainThatIsJustThePenalty();
        greedyOfEqualGainsTakesTheLowestNumber();
        greedyIsDoneAtTheFirstGainTooSmall();
        windowEnds();
        latestThatIsNotMatchedYet();
        alarmsOfOtherKindsTakeNothing();
        averageIsDividedAsFloats();
        argumentsGoAheadOfTheState();
        Check.end();
    }

    private static Breakpoint sums(int target, int slack, int threshold, int... values) {
        Breakpoint x = Check.quiet();
        x.setSums(target, slack, threshold);
        Check.addAll(x, values);
        return x;
    }

    private static Breakpoint test(int allowance, int forgetting, int limit, int... values) {
        Breakpoint x = Check.quiet();
        x.setTest(allowance, forgetting, limit);
        Check.addAll(x, values);
        return x;
    }

    private static void sumsBecomeZeroInsteadOfLess() {
        Check.same("P10 just 0", sums(10, 5, 100, 15).highSum(), 0);
        Check.same("P10 1", sums(10, 5, 100, 16).highSum(), 1);
        Check.same("P10 0 instead of -1", sums(10, 5, 100, 14, 16).highSum(), 1);
        Check.same("P10 down to just 0", sums(10, 5, 100, 18, 12, 16).highSum(), 1);
        Check.same("P10 down to 1", sums(10, 5, 100, 18, 13, 16).highSum(), 2);
        Check.same("P10 down to 0 instead of -1", sums(10, 5, 100, 18, 11, 16).highSum(), 1);
        Check.same("P11 just 0", sums(10, 5, 100, 5).lowSum(), 0);
        Check.same("P11 1", sums(10, 5, 100, 4).lowSum(), 1);
        Check.same("P11 0 instead of -1", sums(10, 5, 100, 6, 4).lowSum(), 1);
        Check.same("P11 down to just 0", sums(10, 5, 100, 2, 8, 4).lowSum(), 1);
        Check.same("P11 down to 1", sums(10, 5, 100, 2, 7, 4).lowSum(), 2);
        Check.same("P11 down to 0 instead of -1", sums(10, 5, 100, 2, 9, 4).lowSum(), 1);
    }

    private static String highLow(Breakpoint x) {
        return x.highSum() + " " + x.lowSum();
    }

    private static void sumsOfTheFarthestFall() {
        // -1000 - 1000 - 1000 for the high sum
        Check.same("P10 P11 farthest down", highLow(sums(1000, 1000, 100000, -1000)), "0 1000");
        Check.same("P10 P11 farthest up", highLow(sums(-1000, 1000, 100000, 1000)), "1000 0");
        Check.same("P10 no debt", highLow(sums(1000, 0, 100000, -1000, -1000)), "0 4000");
        Check.same("P11 no debt", highLow(sums(-1000, 0, 100000, 1000, 1000)), "4000 0");
        Check.same("P10 slack is greater than all", highLow(sums(0, 1000, 0, 1000, 1000)), "0 0");
        Check.same("P11 slack is greater than all", highLow(sums(0, 1000, 0, -1000, -1000)), "0 0");
    }

    private static void alarmsOfSumsAboveTheThreshold() {
        Breakpoint x = sums(0, 0, 10, 4);
        Check.same("P6 high sum is the threshold", x.add(6), 0);
        Check.same("P13 none", x.alarms(), 0);
        Check.same("P6 high sum is above it", x.add(1), 1);
        x = sums(0, 0, 10, -4);
        Check.same("P6 low sum is the threshold", x.add(-6), 0);
        Check.same("P13 none of the low sum", x.alarms(), 0);
        Check.same("P6 low sum is above it", x.add(-1), 2);
    }

    private static void bothSumsBecomeZeroBehindEitherKind() {
        Breakpoint x = sums(0, 0, 20, 15, -4);
        Check.same("P10 P11 ahead of kind 1", highLow(x), "11 4");
        Check.same("P6 kind 1", x.add(-17), 2);
        Check.same("P10 P11 behind kind 1", highLow(x), "0 0");
        x.add(5);
        Check.same("P10 P11 from 0 on", highLow(x), "5 0");
        x = sums(0, 0, 20, -15, 4);
        Check.same("P10 P11 ahead of kind 0", highLow(x), "4 11");
        Check.same("P6 kind 0", x.add(17), 1);
        Check.same("P10 P11 behind kind 0", highLow(x), "0 0");
        x.add(-5);
        Check.same("P10 P11 from 0 on again", highLow(x), "0 5");
    }

    private static void startIsTheFirstValue() {
        Check.same("P16 high sum from number 0", Check.alarms(sums(0, 0, 10, 5, 6)), "0@1<0");
        Check.same("P16 low sum from number 0", Check.alarms(sums(0, 0, 10, -5, -6)), "1@1<0");
        Check.same("P16 number 0 alone", Check.alarms(sums(0, 0, 10, 11)), "0@0<0");
        Check.same("P16 number 0 alone, low sum", Check.alarms(sums(0, 0, 10, -11)), "1@0<0");
    }

    private static void startIsBehindTheLastZero() {
        Check.same("P16 a value that leaves 0", Check.alarms(sums(0, 3, 10, 3, 3, 9, 9)), "0@3<2");
        Check.same("P16 a value that would make it less", Check.alarms(sums(0, 3, 10, -1, 9, 9)), "0@2<1");
        Check.same("P16 down to just 0", Check.alarms(sums(0, 0, 10, 5, -5, 5, 6)), "0@3<2");
        Check.same("P16 down to 0 instead of less", Check.alarms(sums(0, 0, 10, 5, -6, 5, 6)), "0@3<2");
        Check.same("P16 down to 1 only", Check.alarms(sums(0, 0, 10, 5, -4, 5, 5)), "0@3<0");
        Check.same("P16 zero twice", Check.alarms(sums(0, 0, 10, 5, -5, 5, -5, 11)), "0@4<4");
        Check.same("P16 low sum just 0", Check.alarms(sums(0, 0, 10, -5, 5, -5, -6)), "1@3<2");
        Check.same("P16 low sum 0 instead of less", Check.alarms(sums(0, 0, 10, -5, 6, -5, -6)), "1@3<2");
        Check.same("P16 low sum 1 only", Check.alarms(sums(0, 0, 10, -5, 4, -5, -5)), "1@3<0");
    }

    private static void startIsBehindAZeroOfItsOwnSum() {
        // high 15 11 0, low 0 4 21
        Check.same("P16 the low sum's own", Check.alarms(sums(0, 0, 20, 15, -4, -17)), "1@2<1");
        // high 0 4 21, low 15 11 0
        Check.same("P16 the high sum's own", Check.alarms(sums(0, 0, 20, -15, 4, 17)), "0@2<1");
        // high 8 6 9 7 11, low 0 2 0 2 0: the high sum never is 0 again
        Check.same("P16 the other one's zeros", Check.alarms(sums(0, 0, 10, 8, -2, 3, -2, 4)), "0@4<0");
    }

    private static void startIsBehindAnAlarmOfEitherKind() {
        Check.same("P16 behind kind 0", Check.alarms(sums(0, 0, 10, 20, 6, 5)), "0@0<0 0@2<1");
        Check.same("P16 behind kind 1", Check.alarms(sums(0, 0, 10, -20, -6, -5)), "1@0<0 1@2<1");
        // high 90 30 0, low 0 60 101
        Breakpoint x = sums(0, 0, 100, 90, -60, -41);
        Check.same("P16 kind 1", Check.alarms(x), "1@2<1");
        Check.addAll(x, 50, 51);
        Check.same("P16 kind 0 behind kind 1", Check.alarms(x), "1@2<1 0@4<3");
        Check.addAll(x, -50, -51);
        Check.same("P16 kind 1 behind kind 0", Check.alarms(x), "1@2<1 0@4<3 1@6<5");
    }

    private static void startIsBehindNewSettings() {
        Breakpoint x = sums(0, 0, 10, 9);
        x.setSums(0, 0, 10);
        Check.addAll(x, 9, 2);
        Check.same("P16 behind the same settings again", Check.alarms(x), "0@2<1");
        x = sums(0, 0, 10, -9);
        x.setSums(0, 0, 10);
        Check.addAll(x, -9, -2);
        Check.same("P16 low sum behind settings", Check.alarms(x), "1@2<1");
        x = sums(0, 0, 10, 9);
        Breakpoint refused = x;
        Check.outOfRange("P3 refused", () -> refused.setSums(0, 0, -1));
        x.add(2);
        Check.same("P16 behind refused settings", Check.alarms(x), "0@1<0");
    }

    private static void startIsNotMovedByTheTest() {
        Breakpoint x = sums(0, 0, 100, 0);
        x.setTest(0, 1000, 4);
        // the test counts from number 1 on: means 10 and 15
        Check.same("P6 no alarm yet", x.add(10), 0);
        Check.same("P6 kind 2", x.add(20), 4);
        Check.same("P10 high sum stays", x.highSum(), 30);
        x.setTest(1000, 0, 100000);
        Check.same("P10 high sum behind setTest", x.highSum(), 30);
        x.add(71);
        Check.same("P16 start ahead of both", Check.alarms(x), "2@2<1 0@3<1");
    }

    private static void meanIsRoundedDown() {
        // the sum is what the last value is above the mean
        Check.same("P12 -1/2 is -1", test(0, 1000, 1000, -1, 0).testSum(), 1);
        Check.same("P12 -3/2 is -2", test(0, 1000, 1000, -3, 0).testSum(), 2);
        Check.same("P12 -4/2 is -2", test(0, 1000, 1000, -4, 0).testSum(), 2);
        Check.same("P12 -1999/2 is -1000", test(0, 1000, 10000, -1000, -999).testSum(), 1);
        Check.same("P12 -2/3 is -1", test(0, 1000, 1000, -1, -1, 0).testSum(), 1);
        Check.same("P12 -3/3 is -1", test(0, 1000, 1000, -2, -2, 1).testSum(), 2);
        Check.same("P12 -1/3 is -1", test(0, 1000, 1000, -1, -1, 1).testSum(), 2);
        Check.same("P12 0/2 is 0", test(0, 1000, 1000, -1, 1).testSum(), 1);
        Check.same("P12 1/2 is 0", test(0, 1000, 1000, 0, 1).testSum(), 1);
        Check.same("P12 3/2 is 1", test(0, 1000, 1000, 1, 2).testSum(), 1);
        Check.same("P12 4/2 is 2", test(0, 1000, 1000, 1, 3).testSum(), 1);
        Check.same("P12 1999/2 is 999", test(0, 1000, 10000, 999, 1000).testSum(), 1);
        Check.same("P12 2/3 is 0", test(0, 1000, 1000, 0, 0, 2).testSum(), 2);
        Check.same("P12 5/3 is 1", test(0, 1000, 1000, 1, 1, 3).testSum(), 2);
    }

    private static void sumIsRoundedTowardsZero() {
        // sums -1, then -0.999 is 0 and 0 - 1 = -1, then 0 + 4 - 1 - 1 = 2
        Check.same("P12 -0.999 is 0", test(1, 999, 1000, 0, 0, 4).testSum(), 3);
        // sums -3, then -1.5 is -1 and -1 + 12 - 6 - 3 = 2
        Check.same("P12 -1.5 is -1", test(3, 500, 1000, 0, 12).testSum(), 5);
        // sums -4, then -2 and -2 + 12 - 6 - 4 = 0
        Check.same("P12 -2 is -2", test(4, 500, 1000, 0, 12).testSum(), 4);
        // means 0 2 2: sums 0 3, then 1.5 is 1 and 1 + 3 - 2 = 2
        Check.same("P12 1.5 is 1", test(0, 500, 1000, 0, 5, 3).testSum(), 2);
        // means 0 1 1: sums 0 2, then 1.998 is 1 and 1 + 1 - 1 = 1
        Check.same("P12 1.998 is 1", test(0, 999, 1000, 0, 3, 1).testSum(), 1);
        // means 0 0 0: sums 0 1, then 0.999 is 0
        Check.same("P12 0.999 is 0", test(0, 999, 1000, 0, 1, 0).testSum(), 0);
    }

    private static void sumFarBelowZero() {
        // -118000 behind 118 values, each just the mean; then means of -984 and -967
        Breakpoint x = test(1000, 1000, 1950);
        x.addRun(-1000, 0, 40);
        x.addRun(-1000, 0, 40);
        x.addRun(-1000, 0, 38);
        Check.same("P12 -118000 is the least sum", x.testSum(), 0);
        Check.same("P6 up by 984", x.add(1000), 0);
        Check.same("P12 984 above it", x.testSum(), 984);
        Check.same("P6 up by 967, above the limit", x.add(1000), 4);
        Check.same("P16 behind the least sum", Check.alarms(x), "2@119<118");
    }

    private static void leastSumIsTheFirstOfEqualOnes() {
        // means 6 4 4 4 9: sums 0 -2 -2 -2 19
        Check.same("P16 behind the first of equal ones", Check.alarms(test(0, 1000, 20, 6, 2, 4, 4, 30)), "2@4<2");
        // means 6 4 4 4 11: sums 0 -2 -1 -2 27
        Check.same("P16 behind the first, one between", Check.alarms(test(0, 1000, 20, 6, 2, 5, 3, 40)), "2@4<2");
        // means 6 4 4 3 10: sums 0 -2 -1 -3 27
        Check.same("P16 behind the one that is less", Check.alarms(test(0, 1000, 20, 6, 2, 5, 1, 40)), "2@4<4");
    }

    private static void alarmsOfTheTestAboveTheLimit() {
        // sums -2 -4, then -4 + 10 - 3 - 2 = 1: 5 above the least one
        Breakpoint x = test(2, 1000, 5, 0, 0);
        Check.same("P6 the difference is the limit", x.add(10), 0);
        Check.same("P12 the difference is the limit", x.testSum(), 5);
        x = test(2, 1000, 4, 0, 0);
        Check.same("P6 the difference is above the limit", x.add(10), 4);
        Check.same("P12 behind the alarm", x.testSum(), 0);
        x = test(1000, 0, 0, 0, 0, 0, 0);
        Check.same("P13 a difference of 0 is not above 0", x.alarms(), 0);
    }

    private static void testBeginsAnewBehindItsAlarmAlone() {
        Breakpoint x = test(1, 1000, 3, 4, 4, 20);
        Check.same("P13 kind 2", Check.alarms(x), "2@2<2");
        // count and total: a mean of 50 with the first value; sum and least sum: -1 -2, then 51 - 50 - 1
        Check.addAll(x, 50, 50, 51, 54);
        Check.same("P12 all of these are 0 again", x.testSum(), 2);
        x = new Breakpoint();
        x.setSums(0, 0, 10);
        x.setTest(0, 1000, 100);
        Check.addAll(x, 0, 4);
        Check.same("P12 ahead of kind 0", x.testSum(), 2);
        Check.same("P6 kind 0", x.add(8), 1);
        // a mean of 4 with number 2: 2 + 8 - 4
        Check.same("P12 behind kind 0", x.testSum(), 6);
        Check.same("P6 kind 1", x.add(-12), 2);
        // a mean of 0 with number 3: 6 - 12 - 0 = -6, the least sum
        Check.same("P12 behind kind 1", x.testSum(), 0);
        Check.same("P6 none", x.add(10), 0);
        Check.same("P12 above -6", x.testSum(), 8);
    }

    private static void startBehindTheLeastSum() {
        Check.same("P16 found with number 0", Check.alarms(test(1, 1000, 3, 5, 50)), "2@1<1");
        Check.same("P16 found just ahead of the alarm", Check.alarms(test(1, 1000, 3, 5, 5, 5, 50)), "2@3<3");
        // sums -1 -2, then -2 + 8 - 6 - 1 = -1, then -1 + 30 - 12 - 1 = 16
        Check.same("P16 a value between", Check.alarms(test(1, 1000, 3, 5, 5, 8, 30)), "2@3<2");
    }

    private static void startWhereTheLeastSumIsZeroAsAtFirst() {
        Check.same("P16 number 0", Check.alarms(test(0, 1000, 3, 5, 5, 50)), "2@2<0");
        Breakpoint x = test(0, 1000, 3, 5, 5, 50, 7, 7, 50);
        Check.same("P16 behind an alarm", Check.alarms(x), "2@2<0 2@5<3");
        x = test(0, 1000, 3, 5, 5);
        x.setTest(0, 1000, 3);
        Check.addAll(x, 5, 50);
        Check.same("P16 behind settings", Check.alarms(x), "2@3<2");
        x.clear();
        Check.addAll(x, 5, 5, 50);
        Check.same("P16 behind clear", Check.alarms(x), "2@2<0");
        // means 4 5 4 10: sums 0 1 0 20, and 0 is not less than 0
        Check.same("P16 a sum of 0 again", Check.alarms(test(0, 1000, 19, 4, 6, 3, 30)), "2@3<0");
        // means 4 5 4 10: sums 0 1 -1 19
        Check.same("P16 a sum of -1", Check.alarms(test(0, 1000, 19, 4, 6, 2, 30)), "2@3<3");
    }

    private static void settingsOfOneDetectorLeaveTheOther() {
        Breakpoint x = Check.with(0, 0, 40);
        Check.same("P12 ahead", x.testSum(), 22);
        x.setSums(3, 3, 3);
        Check.same("P12 behind setSums", x.testSum(), 22);
        x = Check.with(0, 0, 40);
        x.setTest(3, 3, 3);
        Check.same("P10 behind setTest", x.highSum(), 35);
        x.setPenalty(0);
        Check.same("P10 behind setPenalty", x.highSum(), 35);
    }

    private static void lowerKindFirst() {
        Breakpoint x = new Breakpoint();
        Check.addAll(x, 0);
        Check.same("P6 kinds 0 and 2", x.add(111), 5);
        Check.same("P14 kinds 0 and 2", x.alarmKind(0) + " " + x.alarmKind(1), "0 2");
        x.clear();
        x.setSums(1000, 0, 100);
        x.add(1000);
        x.add(1000);
        x.setTest(0, 0, 3);
        x.add(940);
        Check.same("P6 kinds 1 and 2", x.add(950), 6);
        Check.same("P14 kinds 1 and 2", Check.alarms(x), "1@3<2 2@3<2");
    }

    private static void middleOfOneToFive() {
        Breakpoint x = Check.quiet(10, 20, 30, 40, 50);
        int[] due = {10, 10, 20, 20, 30};
        for (int count = 1; count <= 5; count++) {
            Check.same("P18 middle of " + count, x.middle(0, count), due[count - 1]);
        }
    }

    private static void middleSortsInRisingOrder() {
        Check.same("P18 falling", Check.quiet(4, 3, 2, 1).middle(0, 4), 2);
        Check.same("P18 negative", Check.quiet(-1, -10, -2).middle(0, 3), -2);
        Check.same("P18 negative, two", Check.quiet(-1, -10).middle(0, 2), -10);
        Check.same("P18 both signs", Check.quiet(5, -5, 0, 3).middle(0, 4), 0);
        Check.same("P18 equal ones", Check.quiet(7, 1, 7, 1).middle(0, 4), 1);
        Check.same("P18 more of the greater", Check.quiet(7, 1, 7).middle(0, 3), 7);
        Check.same("P18 the ends of the range", Check.quiet(1000, -1000).middle(0, 2), -1000);
    }

    private static void costIsOfAbsoluteDifferences() {
        Check.same("P17 one value", Check.quiet(-8).cost(0, 1), 0);
        Check.same("P17 the ends of the range", Check.quiet(1000, -1000).cost(0, 2), 2000);
        Check.same("P17 on both sides", Check.quiet(-3, 9, 0).cost(0, 3), 12);
        // the middle of 1 2 4 9 is 2: 1 + 0 + 2 + 7
        Check.same("P17 even", Check.quiet(9, 1, 4, 2).cost(0, 4), 10);
        Check.same("P17 equal values", Check.quiet(6, 6, 6).cost(0, 3), 0);
    }

    private static String best(int penalty, int... values) {
        Breakpoint x = Check.quiet(values);
        x.setPenalty(penalty);
        return Check.changes(x) + " = " + x.bestCost();
    }

    private static String greedy(int penalty, int... values) {
        Breakpoint x = Check.quiet(values);
        x.setPenalty(penalty);
        return Check.greedyChanges(x) + " = " + x.greedyCost();
    }

    private static void bestOfEqualCostsHasTheFewestChanges() {
        Check.same("P19 none or one", best(20, 0, 20), " = 20");
        Check.same("P19 one is better by 1", best(19, 0, 20), "1 = 19");
        Check.same("P19 none is better by 1", best(21, 0, 20), " = 20");
        Check.same("P20 one or two", best(9, 0, 0, 9, 18, 18), "2 = 18");
        Check.same("P20 two are better by 1", best(8, 0, 0, 9, 18, 18), "2 3 = 16");
        // none costs 80, two cost 0 and 80
        Check.same("P19 none or two", best(40, 0, 0, 0, 20, 20, 20, 20, 0, 0, 0), " = 80");
        Check.same("P19 two are better by 2", best(39, 0, 0, 0, 20, 20, 20, 20, 0, 0, 0), "3 7 = 78");
        Check.same("P19 penalty 0, equal values", best(0, 4, 4, 4), " = 0");
        Check.same("P19 penalty 0, equal values in two parts", best(0, 4, 4, 7, 7), "2 = 0");
    }

    private static void bestOfEqualCountsIsEarlierAtTheFirstPlace() {
        Check.same("P20 2 or 3", best(10, 0, 0, 9, 18, 18), "2 = 19");
        // one change at 1 or at 3 leaves 10; all three leave 0
        Check.same("P20 1 or 3", best(5, 0, 10, 0, 10), "1 = 15");
        Check.same("P20 2 or 3, then 7 or 8", best(10, 0, 0, 9, 18, 18, 100, 100, 109, 118, 118), "2 5 7 = 48");
        Check.same("P20 2 and 5, or 3 and 4", best(3, 0, 0, 3, 9, 3, 0, 0), "2 5 = 12");
        // 3 and 4, 3 and 5, 3 and 6 leave 12 as well
        Check.same("P20 1 and 5, or 1 and 6", best(3, 0, 6, 0, 9, 6, 3, 0), "1 5 = 18");
    }

    private static void greedyGainThatIsJustThePenalty() {
        Check.same("P23 just the penalty", greedy(20, 0, 20), " = 20");
        Check.same("P23 more by 1", greedy(19, 0, 20), "1 = 19");
        Check.same("P23 less by 1", greedy(21, 0, 20), " = 20");
        Check.same("P23 a gain of 0, penalty 0", greedy(0, 4, 4, 4), " = 0");
        Check.same("P23 gains of 1, penalty 0", greedy(0, 4, 5), "1 = 0");
        // the first cut gains 270 - 30, the second 30
        Check.same("P23 the second one is just the penalty", greedy(30, 0, 30, 150, 150), "2 = 60");
        Check.same("P23 the second one is more", greedy(29, 0, 30, 150, 150), "1 2 = 58");
    }

    private static void greedyOfEqualGainsTakesTheLowestNumber() {
        Check.same("P24 in one segment", greedy(26, 0, 0, 9, 18, 18), "2 = 35");
        // behind the cut at 4, which gains most, the cuts at 2 and at 6 gain 40 each
        Check.same("P24 in two segments", greedy(39, 0, 0, 20, 20, 500, 500, 520, 520), "2 4 6 = 117");
        // 0 10 10 0: the cuts at 1 and at 3 gain 10 each, and behind the one at 1 the other one still does
        Check.same("P24 at both ends", greedy(9, 0, 10, 10, 0), "1 3 = 18");
        Check.same("P24 at both ends, just the penalty", greedy(10, 0, 10, 10, 0), " = 20");
    }

    private static void greedyIsDoneAtTheFirstGainTooSmall() {
        int[] hump = {0, 0, 0, 20, 20, 20, 20, 0, 0, 0};
        // no single cut gains more than 20, though the two together gain 80
        Check.same("P23 greedy of a hump", greedy(25, hump), " = 80");
        Check.same("P19 best of a hump", best(25, hump), "3 7 = 50");
    }

    /** An alarm of kind 0 with each value above 0, one of kind 1 with each below, none of kind 2. */
    private static Breakpoint alarmed(int... values) {
        return sums(0, 0, 0, values);
    }

    private static Breakpoint marked(Breakpoint x, int... numbers) {
        for (int number : numbers) {
            x.toggleTruth(number);
        }
        return x;
    }

    private static String matching(Breakpoint x, int kind, int window) {
        String delay = x.matched(kind, window) == 0 ? "" : " " + x.averageDelay(kind, window);
        return x.matched(kind, window) + " " + x.falseAlarms(kind, window) + delay;
    }

    private static void windowEnds() {
        int[] values = {0, 0, 0, 0, 0, 1, 0};
        Check.same("P27 number less window", matching(marked(alarmed(values), 2), 0, 3), "1 0 3.0");
        Check.same("P27 one less", matching(marked(alarmed(values), 1), 0, 3), "0 1");
        Check.same("P27 one more", matching(marked(alarmed(values), 3), 0, 3), "1 0 2.0");
        Check.same("P27 its own number", matching(marked(alarmed(values), 5), 0, 3), "1 0 0.0");
        Check.same("P27 behind its number", matching(marked(alarmed(values), 6), 0, 3), "0 1");
        Check.same("P27 window 0, its own number", matching(marked(alarmed(values), 5), 0, 0), "1 0 0.0");
        Check.same("P27 window 0, one less", matching(marked(alarmed(values), 4), 0, 0), "0 1");
        Check.same("P27 window 0, behind it", matching(marked(alarmed(values), 6), 0, 0), "0 1");
        Check.same("P27 a window that ends at 0", matching(marked(alarmed(values), 0), 0, 5), "1 0 5.0");
        Check.same("P27 a window that ends at 1", matching(marked(alarmed(values), 0), 0, 4), "0 1");
        Check.same("P27 a window longer than all", matching(marked(alarmed(values), 0), 0, 120), "1 0 5.0");
        Check.same("P27 an alarm with number 0", matching(marked(alarmed(1, 0), 0), 0, 120), "1 0 0.0");
        Check.same("P27 an alarm with number 0, 1 marked", matching(marked(alarmed(1, 0), 1), 0, 120), "0 1");
    }

    private static void latestThatIsNotMatchedYet() {
        int[] values = {0, 0, 0, 1, 1, 0, 1};
        Check.same("P27 the latest", matching(marked(alarmed(0, 0, 0, 1), 0, 2), 0, 9), "1 0 1.0");
        Check.same("P27 matched already", matching(marked(alarmed(values), 2), 0, 9), "1 2 1.0");
        // number 3 takes 2, number 4 takes 0, number 6 none
        Check.same("P27 an earlier one instead", matching(marked(alarmed(values), 0, 2), 0, 9), "2 1 2.5");
        // number 4 has 0 out of its window
        Check.same("P27 an earlier one out of the window", matching(marked(alarmed(values), 0, 2), 0, 3), "1 2 1.0");
        // number 3 takes 2, number 4 takes 1, number 6 takes 5
        Check.same("P27 each takes its own", matching(marked(alarmed(values), 1, 2, 5), 0, 9), "3 0 "
                + 5.0f / 3.0f);
        // number 3 takes 3, number 4 takes 2, number 6 finds none
        Check.same("P27 in the order of the alarms", matching(marked(alarmed(values), 2, 3), 0, 9), "2 1 1.0");
    }

    private static void alarmsOfOtherKindsTakeNothing() {
        Breakpoint x = marked(alarmed(0, 1, -1, -1, 1), 1);
        Check.same("P27 kind 0", matching(x, 0, 9), "1 1 0.0");
        Check.same("P27 kind 1 takes it too", matching(x, 1, 9), "1 1 1.0");
        Check.same("P27 kind 0 again", matching(x, 0, 9), "1 1 0.0");
        Check.same("P27 kind 2 has no alarms", matching(x, 2, 9), "0 0");
    }

    private static void averageIsDividedAsFloats() {
        Breakpoint x = marked(alarmed(1, 1, 0, 1), 0, 1, 2);
        // delays 0 0 1
        Check.same("P29 1/3", x.averageDelay(0, 5), 1.0f / 3.0f);
        marked(x, 2);
        Check.same("P29 0/2", x.averageDelay(0, 5), 0.0f);
        // delays 1 and 2, not rounded
        Check.same("P29 3/2", marked(alarmed(0, 1, 0, 0, 1), 0, 2).averageDelay(0, 5), 1.5f);
    }

    private static void argumentsGoAheadOfTheState() {
        Breakpoint x = Check.quiet();
        x.addRun(0, 0, 40);
        x.addRun(0, 0, 40);
        x.addRun(0, 0, 40);
        Check.notNow("P6 state", () -> x.add(1000));
        Check.outOfRange("P6 argument and state", () -> x.add(1001));
        Check.notNow("P7 state", () -> x.addRun(1000, -1000, 1));
        Check.outOfRange("P7 step and state", () -> x.addRun(0, -1001, 1));
        Check.outOfRange("P7 count and state", () -> x.addRun(0, 0, 0));
        Check.outOfRange("P7 value and state", () -> x.addRun(1000, 1, 2));
        Check.notNow("P29 state", () -> x.averageDelay(0, 0));
        Check.outOfRange("P29 kind and state", () -> x.averageDelay(3, 0));
        Check.outOfRange("P29 window and state", () -> x.averageDelay(0, 121));
        x.clear();
        Check.notNow("P22 state", () -> x.leastCost(119));
        Check.outOfRange("P22 argument and state", () -> x.leastCost(120));
    }
}
