import java.util.ArrayList;
import java.util.Arrays;
import java.util.List;

/**
 * The document once more, told as slowly and directly as it goes: sums are summed up anew from
 * their first value with each call, and of few values every cutting is tried.
 */
final class SlowBreakpoint {
    private static final int FEW = 11;

    private final List<Integer> values = new ArrayList<>();
    private final List<int[]> alarms = new ArrayList<>();
    private final boolean[] marks = new boolean[120];
    private int target = 0;
    private int slack = 5;
    private int threshold = 50;
    private int allowance = 5;
    private int forgetting = 1000;
    private int limit = 50;
    private int penalty = 20;
    private int sumsFrom = 0;
    private int testFrom = 0;

    int clear() {
        int count = values.size();
        values.clear();
        alarms.clear();
        Arrays.fill(marks, false);
        sumsFrom = 0;
        testFrom = 0;
        return count;
    }

    int setSums(int target, int slack, int threshold) {
        argument(target >= -1000 && target <= 1000 && slack >= 0 && slack <= 1000);
        argument(threshold >= 0 && threshold <= 100000);
        this.target = target;
        this.slack = slack;
        this.threshold = threshold;
        sumsFrom = values.size();
        return 0;
    }

    int setTest(int allowance, int forgetting, int limit) {
        argument(allowance >= 0 && allowance <= 1000 && forgetting >= 0 && forgetting <= 1000);
        argument(limit >= 0 && limit <= 100000);
        this.allowance = allowance;
        this.forgetting = forgetting;
        this.limit = limit;
        testFrom = values.size();
        return 0;
    }

    int setPenalty(int penalty) {
        argument(penalty >= 0 && penalty <= 100000);
        int before = this.penalty;
        this.penalty = penalty;
        return before;
    }

    int add(int value) {
        argument(value >= -1000 && value <= 1000);
        state(values.size() < 120);
        values.add(value);
        int number = values.size() - 1;
        int[] high = cumulativeSum(1);
        int[] low = cumulativeSum(-1);
        long[] test = testSums();
        int kinds = 0;
        if (high[0] > threshold) {
            alarms.add(new int[] {0, number, high[1]});
            kinds += 1;
        }
        if (low[0] > threshold) {
            alarms.add(new int[] {1, number, low[1]});
            kinds += 2;
        }
        if (kinds > 0) {
            sumsFrom = number + 1;
        }
        if (test[0] - test[1] > limit) {
            alarms.add(new int[] {2, number, (int) test[2]});
            kinds += 4;
            testFrom = number + 1;
        }
        return kinds;
    }

    /** The sum upwards (1) or downwards (-1), and the number of the first value behind its last 0. */
    private int[] cumulativeSum(int way) {
        int sum = 0;
        int start = sumsFrom;
        for (int i = sumsFrom; i < values.size(); i++) {
            sum += way * (values.get(i) - target) - slack;
            if (sum < 0) {
                sum = 0;
            }
            if (sum == 0) {
                start = i + 1;
            }
        }
        return new int[] {sum, start};
    }

    /** The sum, the least sum, and the start that an alarm would have. */
    private long[] testSums() {
        long sum = 0;
        long least = 0;
        int start = testFrom;
        for (int i = testFrom; i < values.size(); i++) {
            double total = 0;
            for (int j = testFrom; j <= i; j++) {
                total += values.get(j);
            }
            long mean = (long) Math.floor(total / (i - testFrom + 1));
            long kept = Long.signum(sum) * (Math.abs(sum) * forgetting / 1000);
            sum = kept + values.get(i) - mean - allowance;
            if (sum < least) {
                least = sum;
                start = i + 1;
            }
        }
        return new long[] {sum, least, start};
    }

    int addRun(int first, int step, int count) {
        argument(step >= -1000 && step <= 1000 && count >= 1 && count <= 40);
        for (long i = 0; i < count; i++) {
            argument(first + step * i >= -1000 && first + step * i <= 1000);
        }
        state(values.size() + count <= 120);
        int raised = 0;
        for (int i = 0; i < count; i++) {
            raised += Integer.bitCount(add(first + step * i));
        }
        return raised;
    }

    int size() {
        return values.size();
    }

    int value(int number) {
        return values.get(index(number, values.size()));
    }

    int highSum() {
        return cumulativeSum(1)[0];
    }

    int lowSum() {
        return cumulativeSum(-1)[0];
    }

    int testSum() {
        return (int) (testSums()[0] - testSums()[1]);
    }

    int alarms() {
        return alarms.size();
    }

    int alarmPart(int alarm, int part) {
        return alarms.get(index(alarm, alarms.size()))[part];
    }

    int cost(int from, int to) {
        int middle = middle(from, to);
        int cost = 0;
        for (int value : values.subList(from, to)) {
            cost += Math.abs(value - middle);
        }
        return cost;
    }

    int middle(int from, int to) {
        if (from < 0 || from >= to || to > values.size()) {
            throw new IndexOutOfBoundsException();
        }
        List<Integer> sorted = new ArrayList<>(values.subList(from, to));
        sorted.sort(null);
        return sorted.get((sorted.size() - 1) / 2);
    }

    List<Integer> bestChanges() {
        return values.size() <= FEW ? bestOfAll() : bestByEnds();
    }

    int priceOf(List<Integer> changes) {
        return values.isEmpty() ? 0 : costOf(changes) + penalty * changes.size();
    }

    private int costOf(List<Integer> changes) {
        int cost = 0;
        int from = 0;
        for (int change : changes) {
            cost += cost(from, change);
            from = change;
        }
        return cost + cost(from, values.size());
    }

    private List<Integer> changesOf(int mask) {
        List<Integer> changes = new ArrayList<>();
        for (int number = 1; number < values.size(); number++) {
            if ((mask >> number - 1 & 1) == 1) {
                changes.add(number);
            }
        }
        return changes;
    }

    private List<Integer> bestOfAll() {
        List<Integer> best = changesOf(0);
        for (int mask = 0; mask < 1 << Math.max(0, values.size() - 1); mask++) {
            List<Integer> changes = changesOf(mask);
            if (isBetter(priceOf(changes), changes, priceOf(best), best)) {
                best = changes;
            }
        }
        return best;
    }

    private static boolean isBetter(int price, List<Integer> changes, int otherPrice, List<Integer> other) {
        if (price != otherPrice) {
            return price < otherPrice;
        }
        if (changes.size() != other.size()) {
            return changes.size() < other.size();
        }
        for (int i = 0; i < changes.size(); i++) {
            if (!changes.get(i).equals(other.get(i))) {
                return changes.get(i) < other.get(i);
            }
        }
        return false;
    }

    private List<Integer> bestByEnds() {
        int n = values.size();
        int[] prices = new int[n + 1];
        List<List<Integer>> lists = new ArrayList<>();
        lists.add(new ArrayList<>());
        for (int end = 1; end <= n; end++) {
            prices[end] = cost(0, end);
            List<Integer> best = new ArrayList<>();
            for (int last = 1; last < end; last++) {
                int price = prices[last] + penalty + cost(last, end);
                List<Integer> changes = new ArrayList<>(lists.get(last));
                changes.add(last);
                if (isBetter(price, changes, prices[end], best)) {
                    prices[end] = price;
                    best = changes;
                }
            }
            lists.add(best);
        }
        return lists.get(n);
    }

    int leastCost(int changes) {
        argument(changes >= 0 && changes <= 119);
        state(changes < values.size());
        return values.size() <= FEW ? leastOfAll(changes) : leastFromBehind(changes);
    }

    private int leastOfAll(int changes) {
        int least = Integer.MAX_VALUE;
        for (int mask = 0; mask < 1 << values.size() - 1; mask++) {
            if (Integer.bitCount(mask) == changes) {
                least = Math.min(least, costOf(changesOf(mask)));
            }
        }
        return least;
    }

    private int leastFromBehind(int changes) {
        int n = values.size();
        int[][] costs = new int[n][n + 1];
        long[] least = new long[n + 1];
        for (int from = 0; from < n; from++) {
            for (int to = from + 1; to <= n; to++) {
                costs[from][to] = cost(from, to);
            }
            least[from] = costs[from][n];
        }
        least[n] = Integer.MAX_VALUE;
        for (int round = 0; round < changes; round++) {
            for (int from = 0; from <= n; from++) {
                long found = Integer.MAX_VALUE;
                for (int cut = from + 1; cut < n; cut++) {
                    found = Math.min(found, costs[from][cut] + least[cut]);
                }
                least[from] = found;
            }
        }
        return (int) least[0];
    }

    List<Integer> greedyChanges() {
        List<Integer> changes = new ArrayList<>();
        if (values.isEmpty()) {
            return changes;
        }
        while (true) {
            int greatest = -1;
            int found = 0;
            int before = costOf(changes);
            for (int number = 1; number < values.size(); number++) {
                List<Integer> more = with(changes, number);
                int gain = more.size() == changes.size() ? -1 : before - costOf(more);
                if (gain > greatest) {
                    greatest = gain;
                    found = number;
                }
            }
            if (greatest <= penalty) {
                return changes;
            }
            changes = with(changes, found);
        }
    }

    private static List<Integer> with(List<Integer> changes, int number) {
        List<Integer> more = new ArrayList<>(changes);
        if (!more.contains(number)) {
            more.add(number);
        }
        more.sort(null);
        return more;
    }

    boolean toggleTruth(int number) {
        index(number, values.size());
        marks[number] ^= true;
        return marks[number];
    }

    int matched(int kind, int window) {
        return delays(kind, window).size();
    }

    int falseAlarms(int kind, int window) {
        int ofKind = 0;
        for (int[] alarm : alarms) {
            ofKind += alarm[0] == kind ? 1 : 0;
        }
        return ofKind - delays(kind, window).size();
    }

    float averageDelay(int kind, int window) {
        List<Integer> delays = delays(kind, window);
        state(!delays.isEmpty());
        int sum = 0;
        for (int delay : delays) {
            sum += delay;
        }
        return (float) sum / (float) delays.size();
    }

    private List<Integer> delays(int kind, int window) {
        argument(kind >= 0 && kind <= 2 && window >= 0 && window <= 120);
        List<Integer> free = new ArrayList<>();
        for (int number = 0; number < values.size(); number++) {
            if (marks[number]) {
                free.add(number);
            }
        }
        List<Integer> delays = new ArrayList<>();
        for (int[] alarm : alarms) {
            int latest = -1;
            for (int number : free) {
                if (number <= alarm[1] && number >= alarm[1] - window) {
                    latest = number;
                }
            }
            if (alarm[0] == kind && latest >= 0) {
                free.remove(Integer.valueOf(latest));
                delays.add(alarm[1] - latest);
            }
        }
        return delays;
    }

    private static int index(int index, int size) {
        if (index < 0 || index >= size) {
            throw new IndexOutOfBoundsException();
        }
        return index;
    }

    private static void argument(boolean holds) {
        if (!holds) {
            throw new IllegalArgumentException();
        }
    }

    private static void state(boolean holds) {
        if (!holds) {
            throw new IllegalStateException();
        }
    }
}
