/** For each sentence of promises 1 to 19 that names a boundary case a test of its own. */
public final class BoundaryTest {
    private static final Check CHECK = new Check();
    private static final int[] FAR = Agents.FAR;

    public static void main(String[] args) {
        CHECK.sentence("1: No units at first.", BoundaryTest::noUnitsAtFirst);
        CHECK.sentence("2: -1 if name is not in 0 .. 4", BoundaryTest::unitName);
        CHECK.sentence("2: -2 if version is not in 1 .. 9", BoundaryTest::unitVersion);
        CHECK.sentence("2: -3 if there is one with this name and version", BoundaryTest::unitTwice);
        CHECK.sentence("2: -4 if there are 10 units; otherwise answers its number", BoundaryTest::unitsFull);
        CHECK.sentence("2: single not 0 makes it single.", BoundaryTest::unitSingle);
        CHECK.sentence("3: -1 if unit is not good", BoundaryTest::offerUnit);
        CHECK.sentence("3: -2 if capability is not in 0 .. 5", BoundaryTest::offerCapability);
        CHECK.sentence("3: -3 if version is not in 1 .. 9", BoundaryTest::offerVersion);
        CHECK.sentence("3: -4 if it has 3 offers; otherwise answers how many it has now", BoundaryTest::offersFull);
        CHECK.sentence("4: -1 if unit is not good", BoundaryTest::needUnit);
        CHECK.sentence("4: -2 if kind is not in 0 .. 63 or its capability is 6 or 7", BoundaryTest::needKind);
        CHECK.sentence("4: kind is 32 * optional + 8 * condition + capability, with optional 0 or 1.",
                BoundaryTest::needKindIsASum);
        CHECK.sentence("4: -3 unless 1 <= low <= high <= 9", BoundaryTest::needRange);
        CHECK.sentence("4: -4 if it has 3 needs; otherwise answers how many it has now", BoundaryTest::needsFull);
        CHECK.sentence("5: -1 if bits is not in 0 .. 7", BoundaryTest::environmentBits);
        CHECK.sentence("5: otherwise answers the one before", BoundaryTest::environmentBefore);
        CHECK.sentence("6: How many units there are.", BoundaryTest::howManyUnits);
        CHECK.sentence("7: The profile.", BoundaryTest::theProfile);
        CHECK.sentence("8: -1 if set is not good", BoundaryTest::soundOfGoodSets);
        CHECK.sentence("8: 1 if the set is sound, otherwise 0", BoundaryTest::soundOrNot);
        CHECK.sentence("9: -1 if set is not good", BoundaryTest::costOfGoodSets);
        CHECK.sentence("9: The cost of a set, sound or not", BoundaryTest::costSoundOrNot);
        CHECK.sentence("10: -1 if wanted or barred is not a good set", BoundaryTest::planOfGoodSets);
        CHECK.sentence("10: -2 if there is no plan", BoundaryTest::noPlan);
        CHECK.sentence("11: -1 if wanted or barred is not a good set", BoundaryTest::planCostOfGoodSets);
        CHECK.sentence("11: -2 if there is no plan", BoundaryTest::noPlanCost);
        CHECK.sentence("11: The cost of the plan for a request.", BoundaryTest::planCostOfPlan);
        CHECK.sentence("12: -1 if wanted or barred is not a good set", BoundaryTest::excessOfGoodSets);
        CHECK.sentence("12: The least number of demands that must be given up so that a plan exists",
                BoundaryTest::excessLeast);
        CHECK.sentence("12: each wanted unit is a demand, and so is each barred one", BoundaryTest::excessDemands);
        CHECK.sentence("13: -1 if wanted or barred is not a good set", BoundaryTest::applyOfGoodSets);
        CHECK.sentence("13: -2 if there is no plan", BoundaryTest::applyWithoutPlan);
        CHECK.sentence("13: otherwise answers how many steps that took", BoundaryTest::applyAnswersSteps);
        CHECK.sentence("14: -1 if wanted or barred is not a good set", BoundaryTest::failOfGoodSets);
        CHECK.sentence("14: -2 if there is no plan", BoundaryTest::failWithoutPlan);
        CHECK.sentence("14: -3 if the change has no step k (nothing is done then)", BoundaryTest::failWithoutStep);
        CHECK.sentence("14: otherwise answers 2 * k: how often units were touched", BoundaryTest::failAnswers);
        CHECK.sentence("15: -1 if there is no such note", BoundaryTest::revertWithoutNote);
        CHECK.sentence("15: Changes to the set that is noted at position i of the history (0 for the first note kept)",
                BoundaryTest::revertToPosition);
        CHECK.sentence("15: sound or not", BoundaryTest::revertToUnsound);
        CHECK.sentence("15: otherwise answers how many steps that took", BoundaryTest::revertAnswers);
        CHECK.sentence("16: How many notes the history has.", BoundaryTest::notes);
        CHECK.sentence("17: -1 if there is no such note", BoundaryTest::noteWithoutNote);
        CHECK.sentence("17: The set noted at position i", BoundaryTest::noteAtPosition);
        CHECK.sentence("18: -1 if unit is not good", BoundaryTest::touchedGoodUnits);
        CHECK.sentence("18: How often the unit has been touched", BoundaryTest::touchedHowOften);
        CHECK.sentence("19: the history has no notes at first", BoundaryTest::noNotesAtFirst);
        CHECK.sentence("19: apply and revert note the profile also if they took no steps.",
                BoundaryTest::notedWithoutSteps);
        CHECK.end();
    }

    private static void due(String what, int got, int want) {
        CHECK.due(what, got, want);
    }

    private static void noUnitsAtFirst() {
        ProvisionAgent x = new ProvisionAgent();
        due("units", x.units(), 0);
        due("unit 0 is not good to offer", x.offer(0, 0, 1), -1);
        due("nor to need", x.need(0, 0, 1, 1), -1);
        due("nor has it been touched", x.touched(0), -1);
        due("the set of unit 0 is not good", x.sound(1), -1);
        due("the empty set costs nothing", x.cost(0), 0);
        due("the empty set is the plan", x.plan(0, 0), 0);
        due("its cost", x.planCost(0, 0), 0);
        due("nothing to give up", x.excess(0, 0), 0);
        due("no step 0", x.fail(0, 0, 0), -3);
        due("no steps", x.apply(0, 0), 0);
        due("the first unit's number", x.unit(0, 1, 0), 0);
    }

    private static void unitName() {
        ProvisionAgent x = new ProvisionAgent();
        due("-1", x.unit(-1, 1, 0), -1);
        due("5", x.unit(5, 1, 0), -1);
        for (int far : FAR) {
            due("" + far, x.unit(far, 1, 0), -1);
        }
        due("0", x.unit(0, 1, 0), 0);
        due("4", x.unit(4, 1, 0), 1);
    }

    private static void unitVersion() {
        ProvisionAgent x = new ProvisionAgent();
        due("0", x.unit(0, 0, 0), -2);
        due("10", x.unit(0, 10, 0), -2);
        for (int far : FAR) {
            due("" + far, x.unit(0, far, 0), -2);
        }
        due("1", x.unit(0, 1, 0), 0);
        due("9", x.unit(0, 9, 0), 1);
    }

    private static void unitTwice() {
        ProvisionAgent x = new ProvisionAgent();
        for (int u = 0; u < 10; u++) {
            due("unit " + u, x.unit(u % 5, 9 - u / 5, 0), u);
            for (int like = 0; like <= u; like++) {
                due("the like of unit " + like + " among " + (u + 1), x.unit(like % 5, 9 - like / 5, 1), -3);
            }
        }
    }

    private static void unitsFull() {
        ProvisionAgent x = new ProvisionAgent();
        for (int u = 0; u < 10; u++) {
            due("unit " + u, x.unit(u % 5, 1 + u / 5, 0), u);
        }
        for (int version = 3; version <= 9; version++) {
            due("an eleventh", x.unit(version % 5, version, 1), -4);
        }
    }

    private static void unitSingle() {
        int[] singles = {0, 1, 2, 256, 1 << 16, Integer.MAX_VALUE, -1, -2, Integer.MIN_VALUE};
        for (int single : singles) {
            ProvisionAgent x = new ProvisionAgent();
            x.unit(0, 1, single);
            x.unit(0, 2, 0);
            due("single " + single, x.sound(3), single == 0 ? 1 : 0);
        }
    }

    private static void offerUnit() {
        ProvisionAgent x = Agents.plain(2);
        due("-1", x.offer(-1, 0, 1), -1);
        due("2 of two", x.offer(2, 0, 1), -1);
        for (int far : FAR) {
            due("" + far, x.offer(far, 0, 1), -1);
        }
    }

    private static void offerCapability() {
        ProvisionAgent x = Agents.plain(2);
        due("-1", x.offer(0, -1, 1), -2);
        due("6", x.offer(0, 6, 1), -2);
        for (int far : FAR) {
            due("" + far, x.offer(0, far, 1), -2);
        }
    }

    private static void offerVersion() {
        ProvisionAgent x = Agents.plain(2);
        due("0", x.offer(0, 0, 0), -3);
        due("10", x.offer(0, 0, 10), -3);
        for (int far : FAR) {
            due("" + far, x.offer(0, 0, far), -3);
        }
    }

    private static void offersFull() {
        ProvisionAgent x = Agents.plain(2);
        due("the least", x.offer(1, 0, 1), 1);
        due("the greatest", x.offer(1, 5, 9), 2);
        due("the same again is one more", x.offer(1, 5, 9), 3);
        due("a fourth", x.offer(1, 3, 3), -4);
        due("a fourth that it offers already", x.offer(1, 5, 9), -4);
        due("the other unit's first", x.offer(0, 0, 1), 1);
    }

    private static void needUnit() {
        ProvisionAgent x = Agents.plain(2);
        due("-1", x.need(-1, 0, 1, 1), -1);
        due("2 of two", x.need(2, 0, 1, 1), -1);
        for (int far : FAR) {
            due("" + far, x.need(far, 0, 1, 1), -1);
        }
    }

    private static void needKind() {
        for (int kind = -72; kind <= 136; kind++) {
            boolean good = kind >= 0 && kind <= 63 && kind % 8 < 6;
            due("kind " + kind, Agents.plain(1).need(0, kind, 1, 1), good ? 1 : -2);
        }
        for (int far : FAR) {
            due("kind " + far, Agents.plain(1).need(0, far, 1, 1), -2);
        }
    }

    private static void needKindIsASum() {
        for (int kind = 0; kind < 64; kind++) {
            if (kind % 8 < 6) {
                kindIs(kind, kind / 32, kind / 8 % 4, kind % 8);
            }
        }
    }

    private static void kindIs(int kind, int optional, int condition, int capability) {
        ProvisionAgent x = Agents.plain(2);
        x.need(0, kind, 1, 9);
        x.environment(condition == 0 ? 0 : 7 & ~(1 << (condition - 1)));
        due("kind " + kind + " where its bit is 0", x.sound(1), optional == 0 && condition == 0 ? 0 : 1);
        x.environment(condition == 0 ? 0 : 1 << (condition - 1));
        due("kind " + kind + " where its bit is 1", x.sound(1), optional);
        due("its cost", x.cost(1), 5 + 2 * optional);
        for (int other = 0; other < 3; other++) {
            x.offer(1, (capability + 1 + other) % 6, 5);
        }
        due("kind " + kind + " with other capabilities", x.cost(3), 10 + 2 * optional);
        x.offer(0, capability, 5);
        due("kind " + kind + " with its capability", x.sound(3), 1);
        due("its cost then", x.cost(3), 10);
    }

    private static void needRange() {
        for (int low = -1; low <= 11; low++) {
            for (int high = -1; high <= 11; high++) {
                boolean good = 1 <= low && low <= high && high <= 9;
                due(low + " .. " + high, Agents.plain(1).need(0, 0, low, high), good ? 1 : -3);
            }
        }
        ProvisionAgent x = Agents.plain(1);
        for (int far : FAR) {
            due(far + " .. 9", x.need(0, 0, far, 9), -3);
            due("1 .. " + far, x.need(0, 0, 1, far), -3);
            due(far + " .. " + far, x.need(0, 0, far, far), -3);
        }
        due("from the least int to the greatest", x.need(0, 0, Integer.MIN_VALUE, Integer.MAX_VALUE), -3);
    }

    private static void needsFull() {
        ProvisionAgent x = Agents.plain(2);
        due("the least", x.need(1, 0, 1, 1), 1);
        due("the greatest", x.need(1, 61, 9, 9), 2);
        due("the same again is one more", x.need(1, 61, 9, 9), 3);
        due("a fourth", x.need(1, 3, 3, 3), -4);
        due("a fourth that it has already", x.need(1, 61, 9, 9), -4);
        due("the other unit's first", x.need(0, 0, 1, 9), 1);
    }

    private static void environmentBits() {
        ProvisionAgent x = new ProvisionAgent();
        due("-1", x.environment(-1), -1);
        due("8", x.environment(8), -1);
        for (int far : FAR) {
            due("" + far, x.environment(far), -1);
        }
    }

    private static void environmentBefore() {
        ProvisionAgent x = new ProvisionAgent();
        int before = 0;
        for (int first = 0; first <= 7; first++) {
            for (int second = 0; second <= 7; second++) {
                due(first + " after " + before, x.environment(first), before);
                due("a refused one is not one before", x.environment(8), -1);
                due(second + " after " + first, x.environment(second), first);
                before = second;
            }
        }
    }

    private static void howManyUnits() {
        ProvisionAgent x = new ProvisionAgent();
        for (int u = 0; u < 10; u++) {
            due("units", x.units(), u);
            x.unit(u % 5, 1 + u / 5, 0);
            x.unit(u % 5, 1 + u / 5, 0);
            x.unit(5, 1, 0);
        }
        due("all ten", x.units(), 10);
        x.unit(0, 9, 0);
        due("no eleventh", x.units(), 10);
    }

    private static void theProfile() {
        ProvisionAgent x = Agents.plain(10);
        due("empty", x.profile(), 0);
        x.apply(1023, 0);
        due("all ten", x.profile(), 1023);
        x.fail(0, 1023, 9);
        due("after a change that failed at its last step", x.profile(), 1023);
        x.apply(0, 1023);
        due("empty again", x.profile(), 0);
        x.revert(0);
        due("reverted", x.profile(), 1023);
    }

    private interface AboutSet {
        int answer(ProvisionAgent x, int set);
    }

    /** The call takes every set of the units there are, and answers -1 to every other number. */
    private static void takesGoodSetsAlone(AboutSet call) {
        for (int n = 0; n <= 10; n++) {
            ProvisionAgent x = Agents.plain(n);
            due("the empty set of " + n + " refused", call.answer(x, 0) == -1 ? 1 : 0, 0);
            due("all of " + n + " refused", call.answer(x, (1 << n) - 1) == -1 ? 1 : 0, 0);
            due("one too large for " + n, call.answer(x, 1 << n), -1);
            due("-1 for " + n, call.answer(x, -1), -1);
            for (int far : FAR) {
                due(far + " for " + n, call.answer(x, far), -1);
            }
        }
    }

    private static void soundOfGoodSets() {
        takesGoodSetsAlone((x, set) -> x.sound(set));
    }

    private static void soundOrNot() {
        ProvisionAgent x = new ProvisionAgent();
        x.unit(0, 1, 1);
        x.unit(0, 2, 1);
        x.unit(1, 1, 0);
        x.need(2, 0, 1, 9);
        due("the empty set", x.sound(0), 1);
        due("one", x.sound(1), 1);
        due("two rivals", x.sound(3), 0);
        due("a need not met", x.sound(4), 0);
        due("both", x.sound(7), 0);
    }

    private static void costOfGoodSets() {
        takesGoodSetsAlone((x, set) -> x.cost(set));
    }

    private static void costSoundOrNot() {
        ProvisionAgent x = new ProvisionAgent();
        for (int version = 1; version <= 9; version++) {
            x.unit(0, version, 1);
            x.need(version - 1, 0, 1, 9);
            x.need(version - 1, 32, 1, 9);
            x.need(version - 1, 32, 1, 9);
        }
        due("the empty set", x.cost(0), 0);
        due("the newest, with needs not met", x.cost(256), 5 + 4);
        due("the oldest", x.cost(1), 5 + 4 + 8);
        due("nine rivals", x.cost(511), 45 + 36 + 36);
    }

    private static void planOfGoodSets() {
        takesGoodSetsAlone((x, set) -> x.plan(set, 0));
        takesGoodSetsAlone((x, set) -> x.plan(0, set));
    }

    private static void noPlan() {
        due("of none, the empty set", new ProvisionAgent().plan(0, 0), 0);
        ProvisionAgent x = withoutMuchHope();
        due("the empty set", x.plan(0, 511), 0);
        due("the last unit alone", x.plan(512, 511), 512);
        due("wanted and barred", x.plan(512, 512), -2);
        due("a need that is never met", x.plan(1, 0), -2);
        due("all", x.plan(1023, 0), -2);
        due("wanted and barred, both all", x.plan(1023, 1023), -2);
    }

    /** Ten units of which the last alone can ever be put in. */
    private static ProvisionAgent withoutMuchHope() {
        ProvisionAgent x = Agents.plain(10);
        for (int u = 0; u < 9; u++) {
            x.need(u, 0, 1, 9);
        }
        return x;
    }

    private static void planCostOfGoodSets() {
        takesGoodSetsAlone((x, set) -> x.planCost(set, 0));
        takesGoodSetsAlone((x, set) -> x.planCost(0, set));
    }

    private static void noPlanCost() {
        due("of none, the empty set", new ProvisionAgent().planCost(0, 0), 0);
        ProvisionAgent x = withoutMuchHope();
        due("the empty set", x.planCost(0, 511), 0);
        due("the last unit alone", x.planCost(512, 511), 5);
        due("wanted and barred", x.planCost(512, 512), -2);
        due("a need that is never met", x.planCost(1, 0), -2);
        due("all", x.planCost(1023, 0), -2);
    }

    private static void planCostOfPlan() {
        ProvisionAgent y = Agents.plain(10);
        due("all of ten", y.planCost(1023, 0), 55);
        y.apply(1023, 0);
        due("all of ten out", y.planCost(0, 1023), 30);
        due("the profile", y.planCost(0, 0), 5);
    }

    private static void excessOfGoodSets() {
        takesGoodSetsAlone((x, set) -> x.excess(set, 0));
        takesGoodSetsAlone((x, set) -> x.excess(0, set));
    }

    private static void excessLeast() {
        due("no demand", new ProvisionAgent().excess(0, 0), 0);
        ProvisionAgent x = withoutMuchHope();
        due("a plan exists", x.excess(512, 511), 0);
        due("all barred", x.excess(0, 1023), 0);
        for (int size = 0; size <= 9; size++) {
            due(size + " that can never be", x.excess((1 << size) - 1, 0), size);
        }
        due("all wanted", x.excess(1023, 0), 9);
        due("all wanted that can be", Agents.plain(10).excess(1023, 0), 0);
        // Nine rivals of one name: all but one must go.
        ProvisionAgent y = new ProvisionAgent();
        for (int version = 1; version <= 9; version++) {
            y.unit(0, version, 1);
        }
        due("nine rivals", y.excess(511, 0), 8);
        due("two rivals", y.excess(257, 0), 1);
        due("one", y.excess(256, 255), 0);
    }

    private static void excessDemands() {
        ProvisionAgent x = Agents.plain(10);
        for (int size = 0; size <= 10; size++) {
            int set = (1 << size) - 1;
            due(size + " wanted and barred", x.excess(set, set), size);
        }
        due("one wanted and barred", x.excess(1023, 512), 1);
        // Unit 9 needs units 0, 1 and 2, which are barred; it is given up sooner than they are.
        for (int u = 0; u < 3; u++) {
            x.offer(u, u, 1);
            x.need(9, u, 1, 1);
        }
        due("one wanted for three barred", x.excess(512, 7), 1);
        due("for one barred", x.excess(512, 4), 1);
        due("one of three wanted", x.excess(896, 7), 1);
        // Units 3 .. 8 need unit 0, which is barred; it is given up sooner than they are.
        for (int u = 3; u < 9; u++) {
            x.need(u, 0, 1, 1);
        }
        due("one barred for six wanted", x.excess(504, 1), 1);
        due("two barred for them and the last", x.excess(1016, 3), 2);
        for (int wanted = 0; wanted < 16; wanted++) {
            for (int barred = 0; barred < 16; barred++) {
                due(wanted + " wanted, " + barred + " barred", fourAtOdds().excess(wanted, barred),
                        leastGivenUp(wanted, barred));
            }
        }
    }

    /** Units 0 and 1 are rivals, and units 1 and 2 need what unit 3 offers. */
    private static ProvisionAgent fourAtOdds() {
        ProvisionAgent x = new ProvisionAgent();
        x.unit(0, 1, 1);
        x.unit(0, 2, 0);
        x.unit(1, 1, 0);
        x.unit(2, 1, 0);
        x.offer(3, 0, 1);
        x.need(1, 0, 1, 9);
        x.need(2, 0, 1, 9);
        return x;
    }

    /** Tries every part of the request's demands, as the sentence says it. */
    private static int leastGivenUp(int wanted, int barred) {
        ProvisionAgent x = fourAtOdds();
        int least = Integer.MAX_VALUE;
        for (int kept = 0; kept < 256; kept++) {
            int wantedStill = wanted & kept;
            int barredStill = barred & kept >> 4;
            if (x.plan(wantedStill, barredStill) != -2) {
                int givenUp = Integer.bitCount(wanted ^ wantedStill) + Integer.bitCount(barred ^ barredStill);
                least = Math.min(least, givenUp);
            }
        }
        return least;
    }

    private static void applyOfGoodSets() {
        takesGoodSetsAlone((x, set) -> x.apply(set, 0));
        takesGoodSetsAlone((x, set) -> x.apply(0, set));
    }

    private static void applyWithoutPlan() {
        ProvisionAgent x = withoutMuchHope();
        due("wanted and barred", x.apply(512, 512), -2);
        due("a need that is never met", x.apply(1, 0), -2);
        due("nothing was noted", x.notes(), 0);
        due("the last unit alone", x.apply(512, 511), 1);
    }

    private static void applyAnswersSteps() {
        for (int from = 0; from < 32; from++) {
            for (int to = 0; to < 32; to++) {
                ProvisionAgent y = Agents.five();
                due("from nothing to " + from, Agents.become(y, from), Integer.bitCount(from));
                due("from " + from + " to " + to, Agents.become(y, to), Integer.bitCount(from ^ to));
            }
        }
        ProvisionAgent z = Agents.plain(10);
        due("ten in", z.apply(1023, 0), 10);
        due("none", z.apply(1023, 0), 0);
        due("ten out", z.apply(0, 1023), 10);
    }

    private static void failOfGoodSets() {
        takesGoodSetsAlone((x, set) -> x.fail(set, 0, 0));
        takesGoodSetsAlone((x, set) -> x.fail(0, set, 0));
    }

    private static void failWithoutPlan() {
        ProvisionAgent x = withoutMuchHope();
        due("wanted and barred", x.fail(512, 512, 0), -2);
        due("a need that is never met", x.fail(1, 0, 0), -2);
        due("the last unit alone", x.fail(512, 511, 0), 0);
    }

    private static void failWithoutStep() {
        for (int steps = 0; steps <= 10; steps++) {
            ProvisionAgent x = Agents.plain(10);
            int set = (1 << steps) - 1;
            due("one past the last of " + steps, x.fail(set, 1023 - set, steps), -3);
            due("-1 of " + steps, x.fail(set, 1023 - set, -1), -3);
            for (int far : FAR) {
                due(far + " of " + steps, x.fail(set, 1023 - set, far), -3);
            }
            for (int u = 0; u < 10; u++) {
                due("touched(" + u + ")", x.touched(u), 0);
            }
            due("profile", x.profile(), 0);
            due("notes", x.notes(), 0);
        }
    }

    private static void failAnswers() {
        for (int steps = 1; steps <= 10; steps++) {
            ProvisionAgent x = Agents.plain(10);
            int set = (1 << steps) - 1;
            for (int k = 0; k < steps; k++) {
                due("step " + k + " of " + steps, x.fail(set, 1023 - set, k), 2 * k);
            }
            for (int u = 0; u < 10; u++) {
                // Unit u is step u, and undone by every failure at a later step.
                due("touched(" + u + ")", x.touched(u), u < steps ? 2 * (steps - 1 - u) : 0);
            }
        }
    }

    private static void revertWithoutNote() {
        ProvisionAgent x = Agents.five();
        for (int made = 0; made <= 9; made++) {
            due("-1 of " + made, x.revert(-1), -1);
            due("one past the last of " + made, x.revert(made < 8 ? made : 8), -1);
            for (int far : FAR) {
                due(far + " of " + made, x.revert(far), -1);
            }
            due("notes", x.notes(), made < 8 ? made : 8);
            x.apply(0, 0);
        }
    }

    private static void revertToPosition() {
        for (int made = 1; made <= 10; made++) {
            int kept = made < 8 ? made : 8;
            for (int i = 0; i < kept; i++) {
                ProvisionAgent x = Agents.plain(10);
                for (int u = 0; u < made; u++) {
                    Agents.become(x, 1 << u);
                }
                int unit = made - kept + i;
                due("revert(" + i + ") of " + made, x.revert(i), unit == made - 1 ? 0 : 2);
                due("profile", x.profile(), 1 << unit);
            }
        }
    }

    private static void revertToUnsound() {
        ProvisionAgent x = Agents.five();
        x.apply(31, 0);
        x.apply(0, 31);
        for (int u = 0; u < 5; u++) {
            x.need(u, 0, 1, 9);
        }
        due("it is not sound", x.sound(31), 0);
        due("nor can it be planned", x.plan(31, 0), -2);
        due("back to it", x.revert(0), 5);
        due("profile", x.profile(), 31);
        due("noted", x.note(2), 31);
        due("a plan leaves it", x.plan(0, 0), 0);
        due("its own cost", x.cost(31), 0);
    }

    private static void revertAnswers() {
        for (int from = 0; from < 32; from++) {
            for (int to = 0; to < 32; to++) {
                ProvisionAgent x = Agents.five();
                Agents.become(x, to);
                Agents.become(x, from);
                due("from " + from + " to " + to, x.revert(0), Integer.bitCount(from ^ to));
            }
        }
        ProvisionAgent y = Agents.plain(10);
        y.apply(0, 0);
        y.apply(1023, 0);
        due("ten out", y.revert(0), 10);
        due("ten in", y.revert(1), 10);
        due("none", y.revert(1), 0);
    }

    private static void notes() {
        ProvisionAgent x = Agents.five();
        for (int made = 0; made < 40; made++) {
            due("after " + made, x.notes(), made < 8 ? made : 8);
            x.fail(31, 0, 0);
            x.apply(1, 1);
            due("a change that is not made notes nothing", x.notes(), made < 8 ? made : 8);
            if (made % 3 == 2) {
                x.revert(made % 2);
            } else {
                x.apply(1 << made % 4, 16 | 15 & ~(1 << made % 4));
            }
        }
    }

    private static void noteWithoutNote() {
        ProvisionAgent x = Agents.five();
        for (int made = 0; made <= 9; made++) {
            due("-1 of " + made, x.note(-1), -1);
            for (int i = made < 8 ? made : 8; i <= 10; i++) {
                due(i + " of " + made, x.note(i), -1);
            }
            for (int far : FAR) {
                due(far + " of " + made, x.note(far), -1);
            }
            x.apply(31, 0);
        }
    }

    private static void noteAtPosition() {
        ProvisionAgent y = Agents.plain(10);
        int[] sets = {1, 1023, 0, 512, 511, 2, 1, 1022};
        for (int set : sets) {
            Agents.become(y, set);
        }
        for (int i = 0; i < 8; i++) {
            due("note(" + i + ")", y.note(i), sets[i]);
        }
    }

    private static void touchedGoodUnits() {
        for (int n = 0; n <= 10; n++) {
            ProvisionAgent x = Agents.plain(n);
            due("-1 of " + n, x.touched(-1), -1);
            due("one past the last of " + n, x.touched(n), -1);
            for (int far : FAR) {
                due(far + " of " + n, x.touched(far), -1);
            }
        }
    }

    private static void touchedHowOften() {
        ProvisionAgent y = Agents.plain(10);
        for (int u = 0; u < 10; u++) {
            due("at first", y.touched(u), 0);
        }
        y.apply(1023, 0);
        y.revert(0);
        y.apply(0, 1);
        y.fail(0, 1023, 2);
        y.revert(0);
        for (int u = 0; u < 10; u++) {
            int want = u == 0 ? 3 : u >= 8 ? 3 : 1;
            due("touched(" + u + ")", y.touched(u), want);
        }
    }

    private static void noNotesAtFirst() {
        due("notes", new ProvisionAgent().notes(), 0);
        due("note(0)", new ProvisionAgent().note(0), -1);
        due("revert(0)", new ProvisionAgent().revert(0), -1);
    }

    private static void notedWithoutSteps() {
        ProvisionAgent x = new ProvisionAgent();
        due("apply without units", x.apply(0, 0), 0);
        due("notes", x.notes(), 1);
        due("revert without units", x.revert(0), 0);
        due("notes", x.notes(), 2);
        x.unit(0, 1, 0);
        due("apply with a step", x.apply(1, 0), 1);
        for (int made = 4; made <= 12; made++) {
            due("apply or revert without", made % 2 == 0 ? x.apply(1, 0) : x.revert(x.notes() - 1), 0);
            due("notes", x.notes(), made < 8 ? made : 8);
            due("the last note", x.note(made < 8 ? made - 1 : 7), 1);
        }
        due("the empty sets were dropped", x.note(0), 1);
        due("and the unit was touched once", x.touched(0), 1);
    }
}
