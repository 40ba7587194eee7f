/** The document's sentences that bind every call, each with a test of its own. */
public final class CallsTest {
    private static final Check CHECK = new Check();
    private static final Twins.Kind BUSY = Twins.Kind.BUSY;
    private static final Twins.Kind FULL = Twins.Kind.FULL;

    public static void main(String[] args) {
        CHECK.sentence("No question changes anything.", CallsTest::noQuestionChangesAnything);
        CHECK.sentence("A refused call changes nothing.", CallsTest::refusedUnitsChangeNothing);
        CHECK.sentence("A refused call changes nothing.", CallsTest::refusedOffersChangeNothing);
        CHECK.sentence("A refused call changes nothing.", CallsTest::refusedNeedsChangeNothing);
        CHECK.sentence("A refused call changes nothing.", CallsTest::refusedChangesChangeNothing);
        CHECK.sentence("A refused call changes nothing.", CallsTest::refusedQuestionsChangeNothing);
        CHECK.sentence("In every method the tests are made in the order named", CallsTest::orderOfUnitsTests);
        CHECK.sentence("In every method the tests are made in the order named", CallsTest::orderOfOffersTests);
        CHECK.sentence("In every method the tests are made in the order named", CallsTest::orderOfNeedsTests);
        CHECK.sentence("In every method the tests are made in the order named", CallsTest::orderOfRequestsTests);
        CHECK.sentence("a unit is good if there is such a unit", CallsTest::goodUnits);
        CHECK.sentence("a set if it is 0 .. 2^n - 1 for n units", CallsTest::goodSets);
        CHECK.sentence("An object is used for at most 512 calls after it has been made",
                CallsTest::fiveHundredAndTwelveCalls);
        CHECK.sentence("No units at first.", CallsTest::objectsAreApart);
        CHECK.end();
    }

    private static void due(String what, int got, int want) {
        CHECK.due(what, got, want);
    }

    private static void noQuestionChangesAnything() {
        CHECK.changesNothing("units", BUSY, 6, x -> x.units());
        CHECK.changesNothing("profile", BUSY, 36, x -> x.profile());
        CHECK.changesNothing("sound", BUSY, 1, x -> x.sound(36));
        CHECK.changesNothing("not sound", BUSY, 0, x -> x.sound(3));
        CHECK.changesNothing("cost", BUSY, 6, x -> x.cost(4));
        CHECK.changesNothing("plan", BUSY, 40, x -> x.plan(8, 0));
        CHECK.changesNothing("planCost", BUSY, 10, x -> x.planCost(8, 0));
        CHECK.changesNothing("excess", BUSY, 1, x -> x.excess(3, 0));
        CHECK.changesNothing("notes", BUSY, 8, x -> x.notes());
        CHECK.changesNothing("note", BUSY, 36, x -> x.note(7));
        CHECK.changesNothing("touched", BUSY, 1, x -> x.touched(5));
    }

    private static void refusedUnitsChangeNothing() {
        CHECK.changesNothing("name too small", BUSY, -1, x -> x.unit(-1, 1, 1));
        CHECK.changesNothing("name too large", BUSY, -1, x -> x.unit(5, 9, 1));
        CHECK.changesNothing("version too small", BUSY, -2, x -> x.unit(0, 0, 1));
        CHECK.changesNothing("version too large", BUSY, -2, x -> x.unit(1, 10, 1));
        CHECK.changesNothing("the like of the first, single", BUSY, -3, x -> x.unit(0, 1, 1));
        CHECK.changesNothing("the like of a single one, not single", BUSY, -3, x -> x.unit(0, 3, 0));
        CHECK.changesNothing("the like of the last", BUSY, -3, x -> x.unit(3, 1, 1));
        CHECK.changesNothing("an eleventh, with a greater version", FULL, -4, x -> x.unit(1, 9, 1));
        CHECK.changesNothing("an eleventh, of a new version", FULL, -4, x -> x.unit(4, 8, 1));
    }

    private static void refusedOffersChangeNothing() {
        CHECK.changesNothing("no such unit", BUSY, -1, x -> x.offer(6, 4, 1));
        CHECK.changesNothing("a unit below 0", BUSY, -1, x -> x.offer(-1, 4, 1));
        CHECK.changesNothing("no eleventh unit", FULL, -1, x -> x.offer(10, 4, 1));
        CHECK.changesNothing("capability too small", BUSY, -2, x -> x.offer(5, -1, 1));
        CHECK.changesNothing("capability too large", BUSY, -2, x -> x.offer(5, 6, 1));
        CHECK.changesNothing("version too small", BUSY, -3, x -> x.offer(5, 4, 0));
        CHECK.changesNothing("version too large", BUSY, -3, x -> x.offer(5, 2, 10));
        CHECK.changesNothing("a fourth", BUSY, -4, x -> x.offer(0, 4, 1));
        CHECK.changesNothing("a fourth, with ten units", FULL, -4, x -> x.offer(0, 4, 1));
    }

    private static void refusedNeedsChangeNothing() {
        CHECK.changesNothing("no such unit", BUSY, -1, x -> x.need(6, 5, 1, 9));
        CHECK.changesNothing("a unit below 0", BUSY, -1, x -> x.need(-1, 5, 1, 9));
        CHECK.changesNothing("no eleventh unit", FULL, -1, x -> x.need(10, 5, 1, 9));
        CHECK.changesNothing("kind too small", BUSY, -2, x -> x.need(0, -1, 1, 9));
        CHECK.changesNothing("kind too large", BUSY, -2, x -> x.need(0, 64, 1, 9));
        CHECK.changesNothing("capability 6", BUSY, -2, x -> x.need(0, 6, 1, 9));
        CHECK.changesNothing("capability 7", BUSY, -2, x -> x.need(0, 39, 1, 9));
        CHECK.changesNothing("low too small", BUSY, -3, x -> x.need(0, 5, 0, 9));
        CHECK.changesNothing("high too large", BUSY, -3, x -> x.need(0, 5, 1, 10));
        CHECK.changesNothing("low above high", BUSY, -3, x -> x.need(0, 5, 5, 4));
        CHECK.changesNothing("a fourth", BUSY, -4, x -> x.need(5, 5, 1, 9));
        CHECK.changesNothing("a fourth, with ten units", FULL, -4, x -> x.need(5, 37, 1, 9));
    }

    private static void refusedChangesChangeNothing() {
        CHECK.changesNothing("environment too small", BUSY, -1, x -> x.environment(-1));
        CHECK.changesNothing("environment too large", BUSY, -1, x -> x.environment(8));
        CHECK.changesNothing("apply, wanted too large", BUSY, -1, x -> x.apply(64, 0));
        CHECK.changesNothing("apply, barred too large", BUSY, -1, x -> x.apply(1, 64));
        CHECK.changesNothing("apply, barred below 0", BUSY, -1, x -> x.apply(1, -1));
        CHECK.changesNothing("apply, rivals", BUSY, -2, x -> x.apply(3, 0));
        CHECK.changesNothing("apply, wanted and barred", FULL, -2, x -> x.apply(512, 512));
        CHECK.changesNothing("fail, wanted too large", BUSY, -1, x -> x.fail(64, 0, 1));
        CHECK.changesNothing("fail, barred below 0", BUSY, -1, x -> x.fail(16, -1, 1));
        CHECK.changesNothing("fail, no plan", BUSY, -2, x -> x.fail(3, 0, 1));
        CHECK.changesNothing("fail, k below 0", BUSY, -3, x -> x.fail(16, 36, -1));
        CHECK.changesNothing("fail, k too large", BUSY, -3, x -> x.fail(16, 36, 3));
        CHECK.changesNothing("fail, no step at all", BUSY, -3, x -> x.fail(36, 27, 0));
        CHECK.changesNothing("revert, below 0", BUSY, -1, x -> x.revert(-1));
        CHECK.changesNothing("revert, past the last", BUSY, -1, x -> x.revert(8));
    }

    private static void refusedQuestionsChangeNothing() {
        CHECK.changesNothing("sound", BUSY, -1, x -> x.sound(64));
        CHECK.changesNothing("cost", BUSY, -1, x -> x.cost(-1));
        CHECK.changesNothing("plan", BUSY, -1, x -> x.plan(64, 0));
        CHECK.changesNothing("no plan", BUSY, -2, x -> x.plan(3, 0));
        CHECK.changesNothing("planCost", BUSY, -1, x -> x.planCost(0, 64));
        CHECK.changesNothing("no plan to cost", BUSY, -2, x -> x.planCost(3, 0));
        CHECK.changesNothing("excess", BUSY, -1, x -> x.excess(0, -1));
        CHECK.changesNothing("note", BUSY, -1, x -> x.note(8));
        CHECK.changesNothing("touched", BUSY, -1, x -> x.touched(6));
    }

    /** Every two tests of a method that can fail at once: the one named first answers. */
    private static void orderOfUnitsTests() {
        ProvisionAgent x = Agents.plain(10);
        due("unit, name and version", x.unit(5, 0, 0), -1);
        due("unit, name and ten units", x.unit(-1, 9, 0), -1);
        due("unit, version and ten units", x.unit(0, 10, 0), -2);
        due("unit, its like and ten units", x.unit(0, 1, 0), -3);
        due("unit, all that can be", x.unit(-1, 10, 0), -1);
    }

    private static void orderOfOffersTests() {
        ProvisionAgent x = Twins.made(BUSY);
        due("offer, unit and capability", x.offer(6, 6, 1), -1);
        due("offer, unit and version", x.offer(-1, 0, 10), -1);
        due("offer, unit, capability and version", x.offer(6, -1, 0), -1);
        due("offer, capability and version", x.offer(1, 6, 0), -2);
        due("offer, capability and three offers", x.offer(0, -1, 1), -2);
        due("offer, version and three offers", x.offer(0, 0, 10), -3);
        due("offer, capability, version and three offers", x.offer(0, 6, 0), -2);
    }

    private static void orderOfNeedsTests() {
        ProvisionAgent x = Twins.made(BUSY);
        due("need, unit and kind", x.need(6, 64, 1, 1), -1);
        due("need, unit and capability", x.need(6, 6, 1, 1), -1);
        due("need, unit and range", x.need(-1, 0, 2, 1), -1);
        due("need, kind and range", x.need(0, 64, 0, 1), -2);
        due("need, capability and range", x.need(0, 7, 1, 10), -2);
        due("need, kind and three needs", x.need(5, -1, 1, 1), -2);
        due("need, capability and three needs", x.need(5, 38, 1, 1), -2);
        due("need, range and three needs", x.need(5, 0, 5, 4), -3);
        due("need, low and three needs", x.need(5, 0, 0, 4), -3);
        due("need, high and three needs", x.need(5, 0, 1, 10), -3);
    }

    private static void orderOfRequestsTests() {
        ProvisionAgent x = Twins.made(BUSY);
        // Units 0 and 1 are rivals: no plan, if the sets were good.
        due("plan, barred and no plan", x.plan(3, 64), -1);
        due("plan, wanted and no plan", x.plan(64 + 3, 0), -1);
        due("planCost, barred and no plan", x.planCost(3, -1), -1);
        due("planCost, wanted and no plan", x.planCost(64 + 3, 3), -1);
        due("apply, barred and no plan", x.apply(3, 64), -1);
        due("apply, wanted and no plan", x.apply(-1, 3), -1);
        due("fail, barred and no plan", x.fail(3, 64, 0), -1);
        due("fail, wanted and no plan", x.fail(-1, 3, 0), -1);
        due("fail, wanted and step", x.fail(64, 0, -1), -1);
        due("fail, barred and step", x.fail(0, 64, 99), -1);
        due("fail, no plan and step", x.fail(3, 0, 99), -2);
        due("fail, no plan and step below 0", x.fail(4, 4, -1), -2);
        due("fail, all three", x.fail(3, 64, -1), -1);
    }

    private static void goodUnits() {
        for (int n = 0; n <= 10; n++) {
            ProvisionAgent x = Agents.plain(n);
            for (int u = 0; u < n; u++) {
                due("touched(" + u + ") of " + n, x.touched(u), 0);
                due("offer(" + u + ") of " + n, x.offer(u, 0, 1), 1);
                due("need(" + u + ") of " + n, x.need(u, 0, 1, 1), 1);
            }
            int[] none = {-1, n, n + 1, 10, 32, -32, Integer.MIN_VALUE, Integer.MAX_VALUE};
            for (int u : none) {
                due("touched(" + u + ") of " + n, x.touched(u), -1);
                due("offer(" + u + ") of " + n, x.offer(u, 0, 1), -1);
                due("need(" + u + ") of " + n, x.need(u, 0, 1, 1), -1);
            }
        }
    }

    private static void goodSets() {
        for (int n = 0; n <= 10; n++) {
            ProvisionAgent x = Agents.plain(n);
            int end = 1 << n;
            due("the empty set of " + n, x.sound(0), 1);
            due("all of " + n, x.sound(end - 1), 1);
            int least = Integer.MIN_VALUE;
            int[] none = {-1, end, end + 1, 1024, -end, least, least + end - 1, Integer.MAX_VALUE};
            for (int set : none) {
                due("set " + set + " of " + n, x.sound(set), -1);
            }
        }
    }

    private static void fiveHundredAndTwelveCalls() {
        ProvisionAgent x = Agents.plain(10);
        for (int call = 10; call < 511; call++) {
            due("call " + call, call % 2 == 0 ? x.apply(1023, 0) : x.apply(0, 1023), 10);
        }
        due("the last call", x.touched(9), 501);
    }

    private static void objectsAreApart() {
        ProvisionAgent before = new ProvisionAgent();
        Twins.made(FULL);
        due("an older object's units", before.units(), 0);
        due("its profile", before.profile(), 0);
        due("its notes", before.notes(), 0);
        due("its environment", before.environment(0), 0);
        due("its first unit", before.unit(0, 1, 0), 0);
        due("how often that was touched", before.touched(0), 0);
        due("the unit's first offer", before.offer(0, 0, 1), 1);
        due("its first need", before.need(0, 0, 1, 1), 1);
    }
}
