/** A finder of changes in a stream of whole numbers. */
public final class Breakpoint {
    private static final int MOST_VALUES = 120;
    private static final int LONGEST_RUN = 40;
    private static final int LONGEST_WINDOW = 120;
    /** Bounds values, steps and targets on both sides of 0, and slack, allowance and forgetting above. */
    private static final int GREATEST_AMOUNT = 1000;
    /** The most that a threshold, a limit or a penalty may be. */
    private static final int GREATEST_LIMIT = 100000;

    private static final int HIGH_KIND = 0;
    private static final int LOW_KIND = 1;
    private static final int TEST_KIND = 2;
    private static final int KINDS = 3;

    private final int[] values;
    private final AlarmList alarmList;
    private final CumulativeSums sums;
    private final PageHinkley test;
    private final SegmentCosts segmentCosts;
    private final LeastCosts leastCosts;
    private final BestSearch bestSearch;
    private final Cutting best;
    private final Cutting greedy;
    private final Truth truth;
    private int valueCount;
    private int penalty;

    public Breakpoint() {
        values = new int[MOST_VALUES];
        alarmList = new AlarmList();
        sums = new CumulativeSums();
        test = new PageHinkley();
        segmentCosts = new SegmentCosts();
        leastCosts = new LeastCosts();
        bestSearch = new BestSearch();
        best = new Cutting();
        greedy = new Cutting();
        truth = new Truth();
        valueCount = 0;
        penalty = 20;
    }

    // ---- settings

    public int clear() {
        int before = valueCount;
        valueCount = 0;
        alarmList.removeAll();
        truth.removeMarks();
        sums.beginAnew();
        test.beginAnew();
        segmentCosts.forget();
        leastCosts.forget();
        forgetCuttings();
        return before;
    }

    public void setSums(int target, int slack, int threshold) throws IllegalArgumentException {
        requireArgument(isAmountFromZero(target));
        requireArgument(isBetween(slack, 0, GREATEST_AMOUNT));
        requireArgument(isBetween(threshold, 0, GREATEST_LIMIT));
        sums.setUp(target, slack, threshold);
    }

    public void setTest(int allowance, int forgetting, int limit) throws IllegalArgumentException {
        requireArgument(isBetween(allowance, 0, GREATEST_AMOUNT));
        requireArgument(isBetween(forgetting, 0, GREATEST_AMOUNT));
        requireArgument(isBetween(limit, 0, GREATEST_LIMIT));
        test.setUp(allowance, forgetting, limit);
    }

    public int setPenalty(int penalty) throws IllegalArgumentException {
        requireArgument(isBetween(penalty, 0, GREATEST_LIMIT));
        int before = this.penalty;
        this.penalty = penalty;
        forgetCuttings();
        return before;
    }

    // ---- values

    public int add(int value) throws IllegalArgumentException, IllegalStateException {
        requireArgument(isAmountFromZero(value));
        requireState(valueCount < MOST_VALUES);
        return take(value);
    }

    public int addRun(int first, int step, int count) throws IllegalArgumentException, IllegalStateException {
        requireArgument(isAmountFromZero(first));
        requireArgument(isAmountFromZero(step));
        requireArgument(isBetween(count, 1, LONGEST_RUN));
        // Equal steps go one way, so that the first and the last value bound all between them.
        requireArgument(isAmountFromZero(first + step * (count - 1)));
        requireState(valueCount + count <= MOST_VALUES);
        int alarmsBefore = alarmList.alarmCount;
        for (int i = 0; i < count; i++) {
            take(first + step * i);
        }
        return alarmList.alarmCount - alarmsBefore;
    }

    public int size() {
        return valueCount;
    }

    public int value(int number) throws IndexOutOfBoundsException {
        requireIndex(isValueNumber(number));
        return values[number];
    }

    // ---- detectors

    public int highSum() {
        return sums.high;
    }

    public int lowSum() {
        return sums.low;
    }

    public int testSum() {
        return test.sum - test.leastSum;
    }

    public int alarms() {
        return alarmList.alarmCount;
    }

    public int alarmKind(int alarm) throws IndexOutOfBoundsException {
        requireIndex(alarmList.has(alarm));
        return alarmList.kinds[alarm];
    }

    public int alarmNumber(int alarm) throws IndexOutOfBoundsException {
        requireIndex(alarmList.has(alarm));
        return alarmList.numbers[alarm];
    }

    public int alarmStart(int alarm) throws IndexOutOfBoundsException {
        requireIndex(alarmList.has(alarm));
        return alarmList.starts[alarm];
    }

    // ---- segments

    public int cost(int from, int to) throws IndexOutOfBoundsException {
        requireIndex(isSegment(from, to));
        return learntCosts().of(from, to);
    }

    public int middle(int from, int to) throws IndexOutOfBoundsException {
        requireIndex(isSegment(from, to));
        return segmentCosts.middleOf(values, from, to);
    }

    public int changes() {
        return bestCutting().cuts;
    }

    public int change(int place) throws IndexOutOfBoundsException {
        Cutting cutting = bestCutting();
        requireIndex(cutting.has(place));
        return cutting.numberAt(place);
    }

    public int bestCost() {
        return bestCutting().price;
    }

    public int leastCost(int changes) throws IllegalArgumentException, IllegalStateException {
        requireArgument(isBetween(changes, 0, MOST_VALUES - 1));
        requireState(changes < valueCount);
        leastCosts.learn(learntCosts(), valueCount);
        return leastCosts.of(changes, valueCount);
    }

    public int greedyChanges() {
        return greedyCutting().cuts;
    }

    public int greedyChange(int place) throws IndexOutOfBoundsException {
        Cutting cutting = greedyCutting();
        requireIndex(cutting.has(place));
        return cutting.numberAt(place);
    }

    public int greedyCost() {
        return greedyCutting().price;
    }

    // ---- truth

    public boolean toggleTruth(int number) throws IndexOutOfBoundsException {
        requireIndex(isValueNumber(number));
        truth.marked[number] = !truth.marked[number];
        return truth.marked[number];
    }

    public int matched(int kind, int window) throws IllegalArgumentException {
        matchAlarms(kind, window);
        return truth.hits;
    }

    public int falseAlarms(int kind, int window) throws IllegalArgumentException {
        matchAlarms(kind, window);
        return truth.misses;
    }

    public float averageDelay(int kind, int window) throws IllegalArgumentException, IllegalStateException {
        matchAlarms(kind, window);
        requireState(truth.hits > 0);
        return (float) truth.delays / (float) truth.hits;
    }

    // ---- what the calls share

    /** Takes in a value that fits and for which there is room; answers the set of the kinds of its alarms. */
    private int take(int value) {
        int number = valueCount;
        values[number] = value;
        valueCount++;
        forgetCuttings();
        int sumKinds = sums.watch(value, number, alarmList);
        int testKinds = test.watch(value, number, alarmList);
        return sumKinds | testKinds;
    }

    private void forgetCuttings() {
        best.stands = false;
        greedy.stands = false;
    }

    private SegmentCosts learntCosts() {
        segmentCosts.learn(values, valueCount);
        return segmentCosts;
    }

    private Cutting bestCutting() {
        if (!best.stands) {
            SegmentCosts costs = learntCosts();
            bestSearch.find(costs, valueCount, penalty, best);
            best.settle(costs, valueCount, penalty);
        }
        return best;
    }

    private Cutting greedyCutting() {
        if (!greedy.stands) {
            SegmentCosts costs = learntCosts();
            GreedySearch.find(costs, valueCount, penalty, greedy);
            greedy.settle(costs, valueCount, penalty);
        }
        return greedy;
    }

    private void matchAlarms(int kind, int window) {
        requireArgument(isBetween(kind, 0, KINDS - 1));
        requireArgument(isBetween(window, 0, LONGEST_WINDOW));
        truth.match(alarmList, kind, window);
    }

    private boolean isValueNumber(int number) {
        return number >= 0 && number < valueCount;
    }

    private boolean isSegment(int from, int to) {
        return from >= 0 && from < to && to <= valueCount;
    }

    private static boolean isAmountFromZero(int amount) {
        return isBetween(amount, -GREATEST_AMOUNT, GREATEST_AMOUNT);
    }

    private static boolean isBetween(int amount, int least, int most) {
        return amount >= least && amount <= most;
    }

    private static void requireArgument(boolean holds) {
        if (!holds) {
            throw new IllegalArgumentException("an argument is out of range");
        }
    }

    private static void requireIndex(boolean holds) {
        if (!holds) {
            throw new IndexOutOfBoundsException("there is no such value, alarm or change");
        }
    }

    private static void requireState(boolean holds) {
        if (!holds) {
            throw new IllegalStateException("the call is not possible now");
        }
    }

    /** The alarms in the order in which they were raised. */
    private static final class AlarmList {
        /** No value raises two alarms of one kind. */
        private static final int MOST_ALARMS = MOST_VALUES * KINDS;

        private final int[] kinds;
        private final int[] numbers;
        private final int[] starts;
        private int alarmCount;

        AlarmList() {
            kinds = new int[MOST_ALARMS];
            numbers = new int[MOST_ALARMS];
            starts = new int[MOST_ALARMS];
            alarmCount = 0;
        }

        void raise(int kind, int number, int start) {
            if (alarmCount < MOST_ALARMS) {
                kinds[alarmCount] = kind;
                numbers[alarmCount] = number;
                starts[alarmCount] = start;
                alarmCount++;
            }
        }

        boolean has(int alarm) {
            return alarm >= 0 && alarm < alarmCount;
        }

        void removeAll() {
            alarmCount = 0;
        }
    }

    /** The two-sided cumulative sum. */
    private static final class CumulativeSums {
        private int target;
        private int slack;
        private int threshold;
        private int high;
        private int low;
        private int highStart;
        private int lowStart;

        CumulativeSums() {
            setUp(0, 5, 50);
        }

        void setUp(int newTarget, int newSlack, int newThreshold) {
            target = newTarget;
            slack = newSlack;
            threshold = newThreshold;
            beginAnew();
        }

        void beginAnew() {
            high = 0;
            low = 0;
        }

        int watch(int value, int number, AlarmList alarms) {
            moveSums(value, number);
            int raised = 0;
            if (high > threshold) {
                alarms.raise(HIGH_KIND, number, highStart);
                raised |= 1 << HIGH_KIND;
            }
            if (low > threshold) {
                alarms.raise(LOW_KIND, number, lowStart);
                raised |= 1 << LOW_KIND;
            }
            if (raised != 0) {
                beginAnew();
            }
            return raised;
        }

        /** A sum that is 0 ahead of a value begins, if at all, to grow with this one. */
        private void moveSums(int value, int number) {
            if (high == 0) {
                highStart = number;
            }
            if (low == 0) {
                lowStart = number;
            }
            high = Math.max(0, high + value - target - slack);
            low = Math.max(0, low + target - slack - value);
        }
    }

    /** The Page-Hinkley test with forgetting. */
    private static final class PageHinkley {
        private static final int WHOLE = 1000;

        private int allowance;
        private int forgetting;
        private int limit;
        private int counted;
        private int total;
        private int sum;
        private int leastSum;
        private int leastNumber;

        PageHinkley() {
            setUp(5, WHOLE, 50);
        }

        void setUp(int newAllowance, int newForgetting, int newLimit) {
            allowance = newAllowance;
            forgetting = newForgetting;
            limit = newLimit;
            beginAnew();
        }

        void beginAnew() {
            counted = 0;
            total = 0;
            sum = 0;
            leastSum = 0;
            leastNumber = 0;
        }

        int watch(int value, int number, AlarmList alarms) {
            moveSum(value, number);
            if (sum - leastSum <= limit) {
                return 0;
            }
            alarms.raise(TEST_KIND, number, startOfGrowth(number));
            beginAnew();
            return 1 << TEST_KIND;
        }

        /** Of 120 values each moves the sum by at most 3000, so that a thousandfold of it fits an int. */
        private void moveSum(int value, int number) {
            counted++;
            total += value;
            sum = sum * forgetting / WHOLE + value - mean() - allowance;
            if (sum < leastSum) {
                leastSum = sum;
                leastNumber = number;
            }
        }

        private int mean() {
            return counted > 0 ? Math.floorDiv(total, counted) : 0;
        }

        /** The least sum only ever falls, so that it is 0 just as long as none was found. */
        private int startOfGrowth(int number) {
            return leastSum < 0 ? leastNumber + 1 : number - counted + 1;
        }
    }

    /**
     * The costs of all segments up to a number. Values are only added behind the others, so that a
     * cost once learnt stays right until all values are removed.
     */
    private static final class SegmentCosts {
        private final int[] costs;
        private final int[] sorted;
        private int learnt;

        SegmentCosts() {
            costs = new int[triangle(MOST_VALUES)];
            sorted = new int[MOST_VALUES];
            learnt = 0;
        }

        /** How many pairs of numbers there are with a first one from 0 and a greater one up to the end. */
        static int triangle(int end) {
            return end * (end + 1) / 2;
        }

        void forget() {
            learnt = 0;
        }

        void learn(int[] values, int end) {
            for (int to = learnt + 1; to <= end; to++) {
                learnSegmentsTo(values, to);
                learnt = to;
            }
        }

        int of(int from, int to) {
            return costs[triangle(to - 1) + from];
        }

        int middleOf(int[] values, int from, int to) {
            for (int number = from; number < to; number++) {
                sortIn(values[number], number - from);
            }
            return sorted[(to - from - 1) / 2];
        }

        private void learnSegmentsTo(int[] values, int to) {
            int row = triangle(to - 1);
            int cost = 0;
            for (int from = to - 1; from >= 0; from--) {
                int count = to - 1 - from;
                cost += distanceFromMiddles(values[from], count);
                costs[row + from] = cost;
                sortIn(values[from], count);
            }
        }

        /**
         * What one more value adds to the cost of those sorted so far: between the two middle places
         * (one and the same for an odd count) every point has the same least sum of distances, and the
         * point there that is nearest to the value is a middle of all together.
         */
        private int distanceFromMiddles(int value, int count) {
            if (count == 0) {
                return 0;
            }
            int lower = sorted[(count - 1) / 2];
            int upper = sorted[count / 2];
            if (value < lower) {
                return lower - value;
            }
            return value > upper ? value - upper : 0;
        }

        private void sortIn(int value, int count) {
            int place = count;
            for (; place > 0 && sorted[place - 1] > value; place--) {
                sorted[place] = sorted[place - 1];
            }
            sorted[place] = value;
        }
    }

    /**
     * The least costs of cutting the values up to a number with a number of changes. As with the
     * segments' costs, what is learnt stays right until all values are removed.
     */
    private static final class LeastCosts {
        private final int[] least;
        private int learnt;

        LeastCosts() {
            least = new int[SegmentCosts.triangle(MOST_VALUES)];
            learnt = 0;
        }

        void forget() {
            learnt = 0;
        }

        void learn(SegmentCosts costs, int end) {
            for (int to = learnt + 1; to <= end; to++) {
                learnCuttingsTo(costs, to);
                learnt = to;
            }
        }

        int of(int changes, int end) {
            return least[SegmentCosts.triangle(end - 1) + changes];
        }

        private void learnCuttingsTo(SegmentCosts costs, int to) {
            int row = SegmentCosts.triangle(to - 1);
            least[row] = costs.of(0, to);
            for (int changes = 1; changes < to; changes++) {
                least[row + changes] = leastWithLastSegment(costs, changes, to);
            }
        }

        private int leastWithLastSegment(SegmentCosts costs, int changes, int to) {
            int found = Integer.MAX_VALUE;
            for (int last = changes; last < to; last++) {
                found = Math.min(found, of(changes - 1, last) + costs.of(last, to));
            }
            return found;
        }
    }

    /** A cutting: which numbers are changes, and what it costs with the penalties. */
    private static final class Cutting {
        private final boolean[] cutAt;
        private int cuts;
        private int price;
        /** Whether values and penalty are still those for which the cutting was found. */
        private boolean stands;

        Cutting() {
            cutAt = new boolean[MOST_VALUES];
            cuts = 0;
            price = 0;
            stands = false;
        }

        void join() {
            for (int number = 0; number < MOST_VALUES; number++) {
                cutAt[number] = false;
            }
            cuts = 0;
        }

        void cut(int number) {
            cutAt[number] = true;
            cuts++;
        }

        void settle(SegmentCosts costs, int end, int penalty) {
            price = cuts * penalty;
            int from = 0;
            for (int to = 1; to <= end; to++) {
                if (to == end || cutAt[to]) {
                    price += costs.of(from, to);
                    from = to;
                }
            }
            stands = true;
        }

        int endOfSegment(int from, int end) {
            for (int number = from + 1; number < end; number++) {
                if (cutAt[number]) {
                    return number;
                }
            }
            return end;
        }

        boolean has(int place) {
            return place >= 0 && place < cuts;
        }

        int numberAt(int place) {
            int passed = 0;
            for (int number = 0; number < MOST_VALUES; number++) {
                if (cutAt[number]) {
                    if (passed == place) {
                        return number;
                    }
                    passed++;
                }
            }
            return 0;
        }
    }

    /**
     * Seeks the best cutting from behind: for each number the best cutting of the values from there
     * on, so that of equal ones the earlier first change can be told at once.
     */
    private static final class BestSearch {
        private final int[] priceFrom;
        private final int[] cutsFrom;
        private final int[] nextCut;

        BestSearch() {
            priceFrom = new int[MOST_VALUES];
            cutsFrom = new int[MOST_VALUES];
            nextCut = new int[MOST_VALUES];
        }

        void find(SegmentCosts costs, int end, int penalty, Cutting found) {
            for (int from = end - 1; from >= 0; from--) {
                findFrom(costs, from, end, penalty);
            }
            found.join();
            int upcoming = end > 0 ? nextCut[0] : 0;
            for (int number = 1; number < end; number++) {
                if (number == upcoming) {
                    found.cut(number);
                    upcoming = nextCut[number];
                }
            }
        }

        private void findFrom(SegmentCosts costs, int from, int end, int penalty) {
            int leastPrice = costs.of(from, end);
            int fewestCuts = 0;
            int earliest = end;
            for (int cut = from + 1; cut < end; cut++) {
                int price = costs.of(from, cut) + penalty + priceFrom[cut];
                int cuts = 1 + cutsFrom[cut];
                if (price < leastPrice || price == leastPrice && cuts < fewestCuts) {
                    leastPrice = price;
                    fewestCuts = cuts;
                    earliest = cut;
                }
            }
            priceFrom[from] = leastPrice;
            cutsFrom[from] = fewestCuts;
            nextCut[from] = earliest;
        }
    }

    /** Seeks the greedy cutting. */
    private static final class GreedySearch {
        static void find(SegmentCosts costs, int end, int penalty, Cutting found) {
            found.join();
            for (int round = 1; round < end; round++) {
                int number = numberOfGreatestGain(costs, end, penalty, found);
                if (number == 0) {
                    return;
                }
                found.cut(number);
            }
        }

        /** Answers 0, at which nothing can be cut, if no gain is greater than the penalty. */
        private static int numberOfGreatestGain(SegmentCosts costs, int end, int penalty, Cutting cutting) {
            int greatest = penalty;
            int numberOfGreatest = 0;
            int from = 0;
            int to = cutting.endOfSegment(0, end);
            for (int number = 1; number < end; number++) {
                if (number == to) {
                    from = number;
                    to = cutting.endOfSegment(number, end);
                } else {
                    int gain = costs.of(from, to) - costs.of(from, number) - costs.of(number, to);
                    if (gain > greatest) {
                        greatest = gain;
                        numberOfGreatest = number;
                    }
                }
            }
            return numberOfGreatest;
        }
    }

    /** The true changes, and what the latest matching of alarms with them found. */
    private static final class Truth {
        private final boolean[] marked;
        private final boolean[] taken;
        private int hits;
        private int misses;
        private int delays;

        Truth() {
            marked = new boolean[MOST_VALUES];
            taken = new boolean[MOST_VALUES];
            hits = 0;
            misses = 0;
            delays = 0;
        }

        void removeMarks() {
            for (int number = 0; number < MOST_VALUES; number++) {
                marked[number] = false;
            }
        }

        void match(AlarmList alarms, int kind, int window) {
            beginMatching();
            for (int alarm = 0; alarm < alarms.alarmCount; alarm++) {
                if (alarms.kinds[alarm] == kind) {
                    matchAlarm(alarms.numbers[alarm], window);
                }
            }
        }

        private void beginMatching() {
            for (int number = 0; number < MOST_VALUES; number++) {
                taken[number] = false;
            }
            hits = 0;
            misses = 0;
            delays = 0;
        }

        private void matchAlarm(int alarmNumber, int window) {
            int earliest = Math.max(0, alarmNumber - window);
            for (int number = alarmNumber; number >= earliest; number--) {
                if (marked[number] && !taken[number]) {
                    taken[number] = true;
                    hits++;
                    delays += alarmNumber - number;
                    return;
                }
            }
            misses++;
        }
    }
}
