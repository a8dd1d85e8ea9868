/** Promises 17 to 25: costs and middles of segments, the best cutting, least costs, the greedy cutting. */
public final class SegmentsTest {
    private SegmentsTest() {
    }

    public static void main(String[] args) {
        costsOfSegments();
        middlesOfSegments();
        costsFollowNewValues();
        fewerValuesBehindClear();
        bestHasTheLeastCost();
        bestHasTheFewestChanges();
        bestHasTheEarliestChange();
        leastCosts();
        greedyOfFewValues();
        greedyCutsTheGreatestGain();
        greedyIsNotTheBest();
        greedyNeedsMoreThanThePenalty();
        greedyTakesTheLowestNumber();
        greedyChangesRise();
        fullObject();
        Check.end();
    }

    private static void costsOfSegments() {
        Breakpoint x = Check.quiet(3, 1, 2, 10, -4, 10);
        Check.same("P17 one value", x.cost(3, 4), 0);
        Check.same("P17 two values", x.cost(0, 2), 2);
        Check.same("P17 three values", x.cost(0, 3), 2);
        Check.same("P17 four values", x.cost(0, 4), 10);
        Check.same("P17 a part", x.cost(2, 5), 14);
        Check.same("P17 equal values", x.cost(3, 6), 14);
        Check.same("P17 all", x.cost(0, 6), 24);
        x = Check.quiet(-1000, 1000, -1000, 1000);
        Check.same("P17 extremes", x.cost(0, 4), 4000);
    }

    private static void middlesOfSegments() {
        Breakpoint x = Check.quiet(3, 1, 2, 10, -4, 10);
        Check.same("P18 one value", x.middle(3, 4), 10);
        Check.same("P18 lower of two", x.middle(0, 2), 1);
        Check.same("P18 three values", x.middle(0, 3), 2);
        Check.same("P18 lower of four", x.middle(0, 4), 2);
        Check.same("P18 a part", x.middle(2, 5), 2);
        Check.same("P18 equal values", x.middle(3, 6), 10);
        Check.same("P18 all", x.middle(0, 6), 2);
        Check.same("P18 negative", x.middle(4, 5), -4);
    }

    private static void costsFollowNewValues() {
        Breakpoint x = Check.quiet(1, 5);
        Check.same("P17 ahead", x.cost(0, 2), 4);
        x.add(9);
        Check.same("P17 behind", x.cost(0, 3), 8);
        Check.same("P18 behind", x.middle(0, 3), 5);
        Check.same("P17 as before", x.cost(0, 2), 4);
        x.clear();
        Check.addAll(x, 7, 8);
        Check.same("P17 other values", x.cost(0, 2), 1);
        Check.same("P22 other values", x.leastCost(0), 1);
        x.clear();
        Check.addAll(x, 7, 9);
        Check.same("P22 behind another clear", x.leastCost(0), 2);
        Check.same("P21 behind another clear", x.bestCost(), 2);
        Check.same("P25 behind another clear", x.greedyCost(), 2);
        x.addRun(50, 0, 3);
        Check.same("P21 behind addRun", x.bestCost(), 22);
        Check.same("P25 behind addRun", x.greedyCost(), 22);
    }

    private static void fewerValuesBehindClear() {
        Breakpoint x = Check.quiet(0, 90, 0, 90, 0, 90, 0, 90);
        Check.same("P20 of eight", Check.changes(x) + " " + x.bestCost(), "1 2 3 4 5 6 7 140");
        // behind the cut at 1 no other one gains
        Check.same("P24 of eight", Check.greedyChanges(x) + " " + x.greedyCost(), "1 290");
        Check.same("P22 of eight", x.leastCost(3), 180);
        x.clear();
        Check.addAll(x, 0, 0, 0, 0, 0, 50);
        Check.same("P20 of six", Check.changes(x) + " " + x.bestCost(), "5 20");
        Check.same("P24 of six", Check.greedyChanges(x) + " " + x.greedyCost(), "5 20");
        Check.same("P22 of six", x.leastCost(0) + " " + x.leastCost(1), "50 0");
        x.clear();
        Check.addAll(x, 0, 50);
        Check.same("P20 of two", Check.changes(x) + " " + x.bestCost(), "1 20");
        Check.same("P24 of two", Check.greedyChanges(x) + " " + x.greedyCost(), "1 20");
        x.clear();
        x.add(8);
        Check.same("P20 of one", Check.changes(x) + " " + x.bestCost(), " 0");
        Check.same("P24 of one", Check.greedyChanges(x) + " " + x.greedyCost(), " 0");
    }

    private static void bestHasTheLeastCost() {
        Breakpoint x = Check.quiet(0, 0, 0, 20, 20, 20, 1, 0, 0);
        x.setPenalty(10);
        Check.same("P20 changes", Check.changes(x), "3 6");
        Check.same("P19 changes", x.changes(), 2);
        Check.same("P21 cost", x.bestCost(), 21);
        x.setPenalty(0);
        Check.same("P20 without a penalty", Check.changes(x), "3 6 7");
        Check.same("P21 without a penalty", x.bestCost(), 0);
        x.setPenalty(100);
        Check.same("P20 with a great one", Check.changes(x), "");
        Check.same("P21 with a great one", x.bestCost(), 61);
    }

    private static void bestHasTheFewestChanges() {
        Breakpoint x = Check.quiet(0, 20);
        Check.same("P19 gain is the penalty", x.changes(), 0);
        Check.same("P21 gain is the penalty", x.bestCost(), 20);
        x.setPenalty(19);
        Check.same("P19 gain is more", x.changes(), 1);
        x = Check.quiet(0, 0, 9, 18, 18);
        x.setPenalty(9);
        Check.same("P20 one change instead of two", Check.changes(x), "2");
        Check.same("P21 of both", x.bestCost(), 18);
        x = Check.quiet(5, 5, 5, 5);
        x.setPenalty(0);
        Check.same("P19 changes that gain nothing", x.changes(), 0);
    }

    private static void bestHasTheEarliestChange() {
        Breakpoint x = Check.quiet(0, 0, 9, 18, 18);
        x.setPenalty(10);
        Check.same("P20 the earlier of two", Check.changes(x), "2");
        x = Check.quiet(0, 5, 0, 5, 0, 5);
        x.setPenalty(3);
        Check.same("P20 the earlier at an end", Check.changes(x), "1");
        x = Check.quiet(0, 0, 9, 18, 18, 100, 100, 109, 118, 118);
        x.setPenalty(10);
        Check.same("P20 at every place", Check.changes(x), "2 5 7");
        Check.same("P21 of these", x.bestCost(), 48);
    }

    private static void leastCosts() {
        Breakpoint x = Check.quiet(0, 0, 9, 18, 18);
        int[] due = {36, 9, 0, 0, 0};
        for (int changes = 0; changes < due.length; changes++) {
            Check.same("P22 leastCost " + changes, x.leastCost(changes), due[changes]);
        }
        x.setPenalty(77);
        Check.same("P22 without penalties", x.leastCost(1), 9);
        x.add(100);
        Check.same("P22 with one more value", x.leastCost(1), 36);
        Check.same("P22 with one more change", x.leastCost(5), 0);
        Check.same("P22 of two", x.leastCost(2), 9);
    }

    private static void greedyOfFewValues() {
        Breakpoint x = Check.quiet();
        x.setPenalty(0);
        Check.same("P23 none", x.greedyChanges(), 0);
        Check.same("P25 none", x.greedyCost(), 0);
        x.add(9);
        Check.same("P23 one", x.greedyChanges(), 0);
        Check.same("P25 one", x.greedyCost(), 0);
        x.add(10);
        Check.same("P23 two", x.greedyChanges(), 1);
        Check.same("P24 two", x.greedyChange(0), 1);
        Check.same("P25 two", x.greedyCost(), 0);
    }

    private static void greedyCutsTheGreatestGain() {
        Breakpoint x = Check.quiet(0, 0, 30, 30, 90, 90);
        x.setPenalty(100);
        // cut at 4 the cost falls from 240 to 60
        Check.same("P24 first", Check.greedyChanges(x), "4");
        Check.same("P25 first", x.greedyCost(), 160);
        x.setPenalty(50);
        Check.same("P24 second", Check.greedyChanges(x), "2 4");
        Check.same("P23 second", x.greedyChanges(), 2);
        Check.same("P25 second", x.greedyCost(), 100);
    }

    private static void greedyIsNotTheBest() {
        Breakpoint x = Check.quiet();
        x.addRun(0, 0, 6);
        x.addRun(20, 0, 5);
        x.addRun(0, 0, 5);
        Check.same("P23 no gain of one change", x.greedyChanges(), 0);
        Check.same("P25 no gain of one change", x.greedyCost(), 100);
        Check.same("P20 the best", Check.changes(x), "6 11");
        Check.same("P21 the best", x.bestCost(), 40);
        x.setPenalty(0);
        Check.same("P23 no gain without a penalty", x.greedyChanges(), 0);
    }

    private static void greedyNeedsMoreThanThePenalty() {
        Breakpoint x = Check.quiet(0, 20);
        Check.same("P23 as much", x.greedyChanges(), 0);
        x.setPenalty(19);
        Check.same("P23 more", x.greedyChanges(), 1);
        Check.same("P25 more", x.greedyCost(), 19);
        x = Check.quiet(6, 6, 6);
        x.setPenalty(0);
        Check.same("P23 a gain of 0", x.greedyChanges(), 0);
    }

    private static void greedyTakesTheLowestNumber() {
        Breakpoint x = Check.quiet(0, 0, 9, 18, 18);
        x.setPenalty(26);
        Check.same("P24 in one segment", Check.greedyChanges(x), "2");
        // behind the cut at 4 each of the two parts gains 40 by one more
        x = Check.quiet(0, 0, 20, 20, 500, 500, 520, 520);
        x.setPenalty(39);
        Check.same("P24 in several segments", Check.greedyChanges(x), "2 4 6");
        Check.same("P25 in several segments", x.greedyCost(), 117);
    }

    private static void greedyChangesRise() {
        Breakpoint x = Check.quiet(0, 10, 400, 400, 900, 900, 930);
        x.setPenalty(5);
        Check.same("P24 changes", Check.greedyChanges(x), "1 2 4 6");
        Check.same("P25 cost", x.greedyCost(), 20);
    }

    private static void fullObject() {
        Breakpoint x = Check.quiet();
        for (int i = 0; i < 120; i++) {
            x.add(i % 2 == 0 ? -1000 : 1000);
        }
        Check.same("P17 full", x.cost(0, 120), 120000);
        Check.same("P18 full", x.middle(0, 120), -1000);
        Check.same("P22 full", x.leastCost(0), 120000);
        Check.same("P22 full, one change", x.leastCost(1), 118000);
        Check.same("P22 full, all changes", x.leastCost(119), 0);
        Check.same("P22 full, one less", x.leastCost(118), 2000);
        x.setPenalty(0);
        Check.same("P19 full", x.changes(), 119);
        Check.same("P20 full", x.change(118), 119);
        Check.same("P21 full", x.bestCost(), 0);
        Check.same("P24 full", x.greedyChange(0), 1);
        x.setPenalty(100000);
        Check.same("P19 full, great penalty", x.changes(), 0);
        Check.same("P21 full, great penalty", x.bestCost(), 120000);
    }
}
