import java.util.List;
import java.util.function.Supplier;

/**
 * Many runs of calls, the same each time, on the class and on the slow telling of the document. A run
 * ends ahead of the 513th call of an object: what it answers from there on is free.
 */
public final class ReferenceTest {
    private static final int CALLS = 512;

    private long seed;
    private final int span;
    private final int most;
    private final int chanceOfRuns;
    private Breakpoint x = new Breakpoint();
    private SlowBreakpoint due = new SlowBreakpoint();
    private String run;
    private int used = 0;

    private ReferenceTest(int number, int span, int most, int chanceOfRuns) {
        this.seed = number;
        this.span = span;
        this.most = most;
        this.chanceOfRuns = chanceOfRuns;
        this.run = "run " + number;
    }

    public static void main(String[] args) {
        int[] spans = {1, 3, 12, 60, 1000};
        for (int number = 0; number < 200; number++) {
            new ReferenceTest(number, spans[number % spans.length], 11, 2).runCalls();
        }
        for (int number = 200; number < 250; number++) {
            new ReferenceTest(number, spans[number % spans.length], 40, 6).runCalls();
        }
        for (int number = 250; number < 265; number++) {
            new ReferenceTest(number, spans[number % spans.length], 120, 10).runCalls();
        }
        Check.end();
    }

    /** A number from 0 up to, and without, the bound. */
    private int pick(int bound) {
        seed = seed * 6364136223846793005L + 1442695040888963407L;
        return (int) ((seed >>> 33) % bound);
    }

    private int amount() {
        return pick(40) == 0 ? odd() : pick(2 * span + 1) - span;
    }

    private int odd() {
        int[] amounts = {-1001, 1001, -1, 0, 1000, -1000, Integer.MAX_VALUE, Integer.MIN_VALUE, 120, 100000, 100001};
        return amounts[pick(amounts.length)];
    }

    private int upTo(int bound) {
        return pick(30) == 0 ? odd() : pick(bound + 1);
    }

    /** A step takes at most four calls, and one more for each change of a cutting. */
    private void runCalls() {
        while (used + 4 + due.size() <= CALLS) {
            if (due.size() < most && pick(100) < 30) {
                changeValues();
            } else if (due.size() >= most && pick(12) == 0) {
                compare("clear()", () -> x.clear(), () -> due.clear());
            } else if (pick(100) < 12) {
                changeSettings();
            } else if (pick(2) == 0) {
                askDetectors();
            } else {
                askRest();
            }
        }
    }

    private void changeValues() {
        if (pick(100) < chanceOfRuns) {
            int first = amount();
            int step = amount() / 20;
            int count = upTo(20);
            compare("addRun(" + first + ", " + step + ", " + count + ")", () -> x.addRun(first, step, count),
                    () -> due.addRun(first, step, count));
        } else {
            int value = amount() + (pick(8) == 0 ? span : 0);
            compare("add(" + value + ")", () -> x.add(value), () -> due.add(value));
        }
    }

    private void changeSettings() {
        int second = pick(3) == 0 ? upTo(1000) : upTo(span / 4);
        int third = upTo(pick(2) == 0 ? span : 4 * span);
        switch (pick(4)) {
            case 0: {
                int target = amount() / 3;
                compare("setSums(" + target + ", " + second + ", " + third + ")", () -> {
                    x.setSums(target, second, third);
                    return 0;
                }, () -> due.setSums(target, second, third));
                break;
            }
            case 1: {
                int allowance = upTo(span / 4);
                int forgetting = pick(3) == 0 ? second : 800 + pick(201);
                compare("setTest(" + allowance + ", " + forgetting + ", " + third + ")", () -> {
                    x.setTest(allowance, forgetting, third);
                    return 0;
                }, () -> due.setTest(allowance, forgetting, third));
                break;
            }
            default:
                compare("setPenalty(" + third + ")", () -> x.setPenalty(third), () -> due.setPenalty(third));
        }
    }

    private void askDetectors() {
        int alarm = upTo(due.alarms());
        switch (pick(9)) {
            case 0:
                compare("highSum()", () -> x.highSum(), () -> due.highSum());
                break;
            case 1:
                compare("lowSum()", () -> x.lowSum(), () -> due.lowSum());
                break;
            case 2:
                compare("testSum()", () -> x.testSum(), () -> due.testSum());
                break;
            case 3:
                compare("alarms()", () -> x.alarms(), () -> due.alarms());
                break;
            case 4:
                compare("alarmKind(" + alarm + ")", () -> x.alarmKind(alarm), () -> due.alarmPart(alarm, 0));
                break;
            case 5:
                compare("alarmNumber(" + alarm + ")", () -> x.alarmNumber(alarm), () -> due.alarmPart(alarm, 1));
                break;
            case 6:
                compare("alarmStart(" + alarm + ")", () -> x.alarmStart(alarm), () -> due.alarmPart(alarm, 2));
                break;
            case 7:
                compare("size()", () -> x.size(), () -> due.size());
                break;
            default:
                int number = upTo(due.size());
                compare("value(" + number + ")", () -> x.value(number), () -> due.value(number));
        }
    }

    private void askRest() {
        int number = upTo(due.size());
        int window = pick(3) == 0 ? upTo(120) : upTo(10);
        int kind = upTo(2);
        switch (pick(9)) {
            case 0:
            case 1:
                compare("toggleTruth(" + number + ")", () -> x.toggleTruth(number), () -> due.toggleTruth(number));
                break;
            case 2:
                compare("matched(" + kind + ", " + window + ")", () -> x.matched(kind, window),
                        () -> due.matched(kind, window));
                break;
            case 3:
                compare("falseAlarms(" + kind + ", " + window + ")", () -> x.falseAlarms(kind, window),
                        () -> due.falseAlarms(kind, window));
                break;
            case 4:
                compare("averageDelay(" + kind + ", " + window + ")", () -> x.averageDelay(kind, window),
                        () -> due.averageDelay(kind, window));
                break;
            case 5:
                int from = upTo(due.size());
                compare("cost(" + from + ", " + number + ")", () -> x.cost(from, number), () -> due.cost(from, number));
                compare("middle(" + from + ", " + number + ")", () -> x.middle(from, number),
                        () -> due.middle(from, number));
                break;
            case 6:
                compare("leastCost(" + number + ")", () -> x.leastCost(number), () -> due.leastCost(number));
                break;
            case 7:
                askBest();
                break;
            default:
                askGreedy();
        }
    }

    private void askBest() {
        List<Integer> best = due.bestChanges();
        int place = upTo(best.size());
        compare("change(" + place + ")", () -> x.change(place), () -> element(best, place));
        compare("changes()", () -> x.changes(), () -> best.size());
        compare("bestCost()", () -> x.bestCost(), () -> due.priceOf(best));
        compare("all changes", () -> Check.changes(x), () -> joined(best));
        used += best.size();
    }

    private void askGreedy() {
        List<Integer> greedy = due.greedyChanges();
        int place = upTo(greedy.size());
        compare("greedyChange(" + place + ")", () -> x.greedyChange(place), () -> element(greedy, place));
        compare("greedyChanges()", () -> x.greedyChanges(), () -> greedy.size());
        compare("greedyCost()", () -> x.greedyCost(), () -> due.priceOf(greedy));
        compare("all greedy changes", () -> Check.greedyChanges(x), () -> joined(greedy));
        used += greedy.size();
    }

    private static int element(List<Integer> list, int place) {
        if (place < 0 || place >= list.size()) {
            throw new IndexOutOfBoundsException();
        }
        return list.get(place);
    }

    private static String joined(List<Integer> list) {
        return list.toString().replaceAll("[\\[\\],]", "");
    }

    private void compare(String call, Supplier<Object> got, Supplier<Object> want) {
        used++;
        Check.same(run + ", " + due.size() + " values: " + call, answer(got), answer(want));
    }

    private static Object answer(Supplier<Object> call) {
        try {
            return call.get();
        } catch (RuntimeException e) {
            return e.getClass().getName();
        }
    }
}
