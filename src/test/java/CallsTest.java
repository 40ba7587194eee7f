/** The document's sentences that bind every call, each with a test of its own. */
public final class CallsTest {
    private static final Check CHECK = new Check();
    private static final Twins.Kind BUSY = Twins.Kind.BUSY;
    private static final Twins.Kind FULL = Twins.Kind.FULL;

    public static void main(String[] args) {
        noQuestionChangesAnything();
        refusedUnitsChangeNothing();
        refusedOffersChangeNothing();
        refusedNeedsChangeNothing();
        refusedChangesChangeNothing();
        refusedQuestionsChangeNothing();
        orderOfUnitsTests();
        orderOfOffersTests();
        orderOfNeedsTests();
        orderOfRequestsTests();
        goodUnits();
        goodSets();
        fiveHundredAndTwelveCalls();
        objectsAreApart();
        CHECK.end();
    }

    private static void due(String what, int got, int want) {
        CHECK.due(what, got, want);
    }

    private static void noQuestionChangesAnything() {
        CHECK.sentence("No question changes anything.");
        CHECK.changesNothing("units", BUSY, 6, x -> x.units());
        CHECK.changesNothing("profile", BUSY, 36, x -> x.profile());
        CHECK.changesNothing("sound", BUSY, 1, x -> x.sound(36));
        CHECK.changesNothing("not sound", BUSY, 0, x -> x.sound(3));
        CHECK.changesNothing("cost", BUSY, 6, x -> x.cost(4));
        CHECK.changesNothing("plan", BUSY, 40, x -> x.plan(8, 0));
        CHECK.changesNothing("planCost", BUSY, 10, x -> x.planCost(8, 0));
        CHECK.changesNothing("excess", BUSY, 1, x -> x.excess(3, 0));
        CHECK.changesNothing("notes", BUSY, 8, x -> x.notes());
        CHECK.changesNothing("note", BUSY, 36, x -> x.note(7));
        CHECK.changesNothing("touched", BUSY, 1, x -> x.touched(5));
    }

    private static void refused(String what, Twins.Kind kind, int want, Twins.Call call) {
        CHECK.sentence("A refused call changes nothing.");
        CHECK.changesNothing(what, kind, want, call);
    }

    private static void refusedUnitsChangeNothing() {
        refused("name too small", BUSY, -1, x -> x.unit(-1, 1, 1));
        refused("name too large", BUSY, -1, x -> x.unit(5, 9, 1));
        refused("version too small", BUSY, -2, x -> x.unit(0, 0, 1));
        refused("version too large", BUSY, -2, x -> x.unit(1, 10, 1));
        refused("the like of the first, single", BUSY, -3, x -> x.unit(0, 1, 1));
        refused("the like of a single one, not single", BUSY, -3, x -> x.unit(0, 3, 0));
        refused("the like of the last", BUSY, -3, x -> x.unit(3, 1, 1));
        refused("an eleventh, with a greater version", FULL, -4, x -> x.unit(1, 9, 1));
        refused("an eleventh, of a new version", FULL, -4, x -> x.unit(4, 8, 1));
    }

    private static void refusedOffersChangeNothing() {
        refused("no such unit", BUSY, -1, x -> x.offer(6, 4, 1));
        refused("a unit below 0", BUSY, -1, x -> x.offer(-1, 4, 1));
        refused("no eleventh unit", FULL, -1, x -> x.offer(10, 4, 1));
        refused("capability too small", BUSY, -2, x -> x.offer(5, -1, 1));
        refused("capability too large", BUSY, -2, x -> x.offer(5, 6, 1));
        refused("version too small", BUSY, -3, x -> x.offer(5, 4, 0));
        refused("version too large", BUSY, -3, x -> x.offer(5, 2, 10));
        refused("a fourth", BUSY, -4, x -> x.offer(0, 4, 1));
        refused("a fourth, with ten units", FULL, -4, x -> x.offer(0, 4, 1));
    }

    private static void refusedNeedsChangeNothing() {
        refused("no such unit", BUSY, -1, x -> x.need(6, 5, 1, 9));
        refused("a unit below 0", BUSY, -1, x -> x.need(-1, 5, 1, 9));
        refused("no eleventh unit", FULL, -1, x -> x.need(10, 5, 1, 9));
        refused("kind too small", BUSY, -2, x -> x.need(0, -1, 1, 9));
        refused("kind too large", BUSY, -2, x -> x.need(0, 64, 1, 9));
        refused("capability 6", BUSY, -2, x -> x.need(0, 6, 1, 9));
        refused("capability 7", BUSY, -2, x -> x.need(0, 39, 1, 9));
        refused("low too small", BUSY, -3, x -> x.need(0, 5, 0, 9));
        refused("high too large", BUSY, -3, x -> x.need(0, 5, 1, 10));
        refused("low above high", BUSY, -3, x -> x.need(0, 5, 5, 4));
        refused("a fourth", BUSY, -4, x -> x.need(5, 5, 1, 9));
        refused("a fourth, with ten units", FULL, -4, x -> x.need(5, 37, 1, 9));
    }

    private static void refusedChangesChangeNothing() {
        refused("environment too small", BUSY, -1, x -> x.environment(-1));
        refused("environment too large", BUSY, -1, x -> x.environment(8));
        refused("apply, wanted too large", BUSY, -1, x -> x.apply(64, 0));
        refused("apply, barred too large", BUSY, -1, x -> x.apply(1, 64));
        refused("apply, barred below 0", BUSY, -1, x -> x.apply(1, -1));
        refused("apply, rivals", BUSY, -2, x -> x.apply(3, 0));
        refused("apply, wanted and barred", FULL, -2, x -> x.apply(512, 512));
        refused("fail, wanted too large", BUSY, -1, x -> x.fail(64, 0, 1));
        refused("fail, barred below 0", BUSY, -1, x -> x.fail(16, -1, 1));
        refused("fail, no plan", BUSY, -2, x -> x.fail(3, 0, 1));
        refused("fail, k below 0", BUSY, -3, x -> x.fail(16, 36, -1));
        refused("fail, k too large", BUSY, -3, x -> x.fail(16, 36, 3));
        refused("fail, no step at all", BUSY, -3, x -> x.fail(36, 27, 0));
        refused("revert, below 0", BUSY, -1, x -> x.revert(-1));
        refused("revert, past the last", BUSY, -1, x -> x.revert(8));
    }

    private static void refusedQuestionsChangeNothing() {
        refused("sound", BUSY, -1, x -> x.sound(64));
        refused("cost", BUSY, -1, x -> x.cost(-1));
        refused("plan", BUSY, -1, x -> x.plan(64, 0));
        refused("no plan", BUSY, -2, x -> x.plan(3, 0));
        refused("planCost", BUSY, -1, x -> x.planCost(0, 64));
        refused("no plan to cost", BUSY, -2, x -> x.planCost(3, 0));
        refused("excess", BUSY, -1, x -> x.excess(0, -1));
        refused("note", BUSY, -1, x -> x.note(8));
        refused("touched", BUSY, -1, x -> x.touched(6));
    }

    private static void order(String what, int got, int want) {
        CHECK.sentence("In every method the tests are made in the order named");
        due(what, got, want);
    }

    /** Every two tests of a method that can fail at once: the one named first answers. */
    private static void orderOfUnitsTests() {
        ProvisionAgent x = Agents.plain(10);
        order("unit, name and version", x.unit(5, 0, 0), -1);
        order("unit, name and ten units", x.unit(-1, 9, 0), -1);
        order("unit, version and ten units", x.unit(0, 10, 0), -2);
        order("unit, its like and ten units", x.unit(0, 1, 0), -3);
        order("unit, all that can be", x.unit(-1, 10, 0), -1);
    }

    private static void orderOfOffersTests() {
        ProvisionAgent x = Twins.made(BUSY);
        order("offer, unit and capability", x.offer(6, 6, 1), -1);
        order("offer, unit and version", x.offer(-1, 0, 10), -1);
        order("offer, unit, capability and version", x.offer(6, -1, 0), -1);
        order("offer, capability and version", x.offer(1, 6, 0), -2);
        order("offer, capability and three offers", x.offer(0, -1, 1), -2);
        order("offer, version and three offers", x.offer(0, 0, 10), -3);
        order("offer, capability, version and three offers", x.offer(0, 6, 0), -2);
    }

    private static void orderOfNeedsTests() {
        ProvisionAgent x = Twins.made(BUSY);
        order("need, unit and kind", x.need(6, 64, 1, 1), -1);
        order("need, unit and capability", x.need(6, 6, 1, 1), -1);
        order("need, unit and range", x.need(-1, 0, 2, 1), -1);
        order("need, kind and range", x.need(0, 64, 0, 1), -2);
        order("need, capability and range", x.need(0, 7, 1, 10), -2);
        order("need, kind and three needs", x.need(5, -1, 1, 1), -2);
        order("need, capability and three needs", x.need(5, 38, 1, 1), -2);
        order("need, range and three needs", x.need(5, 0, 5, 4), -3);
        order("need, low and three needs", x.need(5, 0, 0, 4), -3);
        order("need, high and three needs", x.need(5, 0, 1, 10), -3);
    }

    private static void orderOfRequestsTests() {
        ProvisionAgent x = Twins.made(BUSY);
        // Units 0 and 1 are rivals: no plan, if the sets were good.
        order("plan, barred and no plan", x.plan(3, 64), -1);
        order("plan, wanted and no plan", x.plan(64 + 3, 0), -1);
        order("planCost, barred and no plan", x.planCost(3, -1), -1);
        order("planCost, wanted and no plan", x.planCost(64 + 3, 3), -1);
        order("apply, barred and no plan", x.apply(3, 64), -1);
        order("apply, wanted and no plan", x.apply(-1, 3), -1);
        order("fail, barred and no plan", x.fail(3, 64, 0), -1);
        order("fail, wanted and no plan", x.fail(-1, 3, 0), -1);
        order("fail, wanted and step", x.fail(64, 0, -1), -1);
        order("fail, barred and step", x.fail(0, 64, 99), -1);
        order("fail, no plan and step", x.fail(3, 0, 99), -2);
        order("fail, no plan and step below 0", x.fail(4, 4, -1), -2);
        order("fail, all three", x.fail(3, 64, -1), -1);
    }

    private static void goodUnits() {
        CHECK.sentence("a unit is good if there is such a unit");
        for (int n = 0; n <= 10; n++) {
            ProvisionAgent x = Agents.plain(n);
            for (int u = 0; u < n; u++) {
                due("touched(" + u + ") of " + n, x.touched(u), 0);
                due("offer(" + u + ") of " + n, x.offer(u, 0, 1), 1);
                due("need(" + u + ") of " + n, x.need(u, 0, 1, 1), 1);
            }
            int[] none = {-1, n, n + 1, 10, 32, -32, Integer.MIN_VALUE, Integer.MAX_VALUE};
            for (int u : none) {
                due("touched(" + u + ") of " + n, x.touched(u), -1);
                due("offer(" + u + ") of " + n, x.offer(u, 0, 1), -1);
                due("need(" + u + ") of " + n, x.need(u, 0, 1, 1), -1);
            }
        }
    }

    private static void goodSets() {
        CHECK.sentence("a set if it is 0 .. 2^n - 1 for n units");
        for (int n = 0; n <= 10; n++) {
            ProvisionAgent x = Agents.plain(n);
            int end = 1 << n;
            due("the empty set of " + n, x.sound(0), 1);
            due("all of " + n, x.sound(end - 1), 1);
            int[] none = {-1, end, end + 1, 1024, -end, Integer.MIN_VALUE, Integer.MIN_VALUE + end - 1, Integer.MAX_VALUE};
            for (int set : none) {
                due("set " + set + " of " + n, x.sound(set), -1);
            }
        }
    }

    private static void fiveHundredAndTwelveCalls() {
        CHECK.sentence("An object is used for at most 512 calls after it has been made");
        ProvisionAgent x = Agents.plain(10);
        for (int call = 10; call < 511; call++) {
            due("call " + call, call % 2 == 0 ? x.apply(1023, 0) : x.apply(0, 1023), 10);
        }
        due("the last call", x.touched(9), 501);
    }

    private static void objectsAreApart() {
        CHECK.sentence("No units at first.");
        ProvisionAgent before = new ProvisionAgent();
        Twins.made(FULL);
        due("an older object's units", before.units(), 0);
        due("its profile", before.profile(), 0);
        due("its notes", before.notes(), 0);
        due("its environment", before.environment(0), 0);
        due("its first unit", before.unit(0, 1, 0), 0);
        due("how often that was touched", before.touched(0), 0);
        due("the unit's first offer", before.offer(0, 0, 1), 1);
        due("its first need", before.need(0, 0, 1, 1), 1);
    }
}
