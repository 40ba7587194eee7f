/** For each promise the ordinary inputs, the edges that the document names, and wrong inputs. */
public final class PromiseTest {
    private static final Check CHECK = new Check();
    private static final int[] FAR = Agents.FAR;

    public static void main(String[] args) {
        newObject();
        unit();
        offer();
        need();
        environment();
        units();
        profile();
        soundNames();
        soundNeeds();
        soundRanges();
        cost();
        costOfOptions();
        plan();
        planCost();
        excess();
        apply();
        fail();
        revert();
        notes();
        note();
        touched();
        orderAndLimits();
        CHECK.end();
    }

    private static void due(String what, int got, int want) {
        CHECK.due(what, got, want);
    }

    private static void newObject() {
        ProvisionAgent x = new ProvisionAgent();
        due("1 units", x.units(), 0);
        due("1 profile", x.profile(), 0);
        due("1 notes", x.notes(), 0);
        due("1 note(0)", x.note(0), -1);
        due("1 revert(0)", x.revert(0), -1);
        due("1 touched(0)", x.touched(0), -1);
        due("1 sound(0)", x.sound(0), 1);
        due("1 sound(1)", x.sound(1), -1);
        due("1 cost(0)", x.cost(0), 0);
        due("1 plan(0, 0)", x.plan(0, 0), 0);
        due("1 plan(1, 0)", x.plan(1, 0), -1);
        due("1 excess(0, 0)", x.excess(0, 0), 0);
        due("1 offer(0, 0, 1)", x.offer(0, 0, 1), -1);
        due("1 need(0, 0, 1, 1)", x.need(0, 0, 1, 1), -1);
        due("1 environment before", x.environment(0), 0);
    }

    private static void unit() {
        ProvisionAgent x = new ProvisionAgent();
        due("2 first", x.unit(0, 1, 0), 0);
        due("2 name -1", x.unit(-1, 1, 0), -1);
        due("2 name 5", x.unit(5, 1, 0), -1);
        due("2 version 0", x.unit(0, 0, 0), -2);
        due("2 version 10", x.unit(0, 10, 0), -2);
        due("2 same", x.unit(0, 1, 1), -3);
        due("2 other version", x.unit(0, 9, 0), 1);
        due("2 other name", x.unit(4, 1, 0), 2);
        for (int far : FAR) {
            due("2 far name", x.unit(far, 2, 0), -1);
            due("2 far version", x.unit(1, far, 0), -2);
        }
        for (int u = 3; u < 10; u++) {
            due("2 further", x.unit(1, u, 0), u);
        }
        due("2 same before full", x.unit(0, 9, 0), -3);
        due("2 full", x.unit(2, 1, 0), -4);
        due("2 units", x.units(), 10);
        for (int single : new int[] {1, -1, 2, Integer.MIN_VALUE, Integer.MAX_VALUE}) {
            ProvisionAgent y = new ProvisionAgent();
            y.unit(0, 1, 0);
            y.unit(0, 2, single);
            due("2 single " + single, y.sound(3), 0);
        }
    }

    private static void offer() {
        ProvisionAgent x = Agents.plain(2);
        due("3 unit -1", x.offer(-1, 0, 1), -1);
        due("3 unit 2", x.offer(2, 0, 1), -1);
        due("3 capability -1", x.offer(0, -1, 1), -2);
        due("3 capability 6", x.offer(0, 6, 1), -2);
        due("3 version 0", x.offer(0, 0, 0), -3);
        due("3 version 10", x.offer(0, 0, 10), -3);
        for (int far : FAR) {
            due("3 far unit", x.offer(far, 0, 1), -1);
            due("3 far capability", x.offer(0, far, 1), -2);
            due("3 far version", x.offer(0, 0, far), -3);
        }
        due("3 first", x.offer(0, 5, 9), 1);
        due("3 same again counts", x.offer(0, 5, 9), 2);
        due("3 third", x.offer(0, 0, 1), 3);
        due("3 fourth", x.offer(0, 1, 1), -4);
        due("3 other unit", x.offer(1, 1, 2), 1);
        x.need(1, 5, 9, 9);
        x.need(1, 0, 1, 1);
        x.need(1, 33, 1, 1);
        due("3 offers count", x.sound(3), 1);
        due("3 without them", x.sound(2), 0);
        due("3 the refused does not count", x.cost(3), 12);
    }

    private static void need() {
        ProvisionAgent x = Agents.plain(2);
        due("4 unit -1", x.need(-1, 0, 1, 1), -1);
        due("4 unit 2", x.need(2, 0, 1, 1), -1);
        due("4 kind -1", x.need(0, -1, 1, 1), -2);
        due("4 kind 64", x.need(0, 64, 1, 1), -2);
        for (int high = 0; high < 64; high += 8) {
            due("4 capability 6", x.need(0, high + 6, 1, 1), -2);
            due("4 capability 7", x.need(0, high + 7, 1, 1), -2);
        }
        due("4 low 0", x.need(0, 0, 0, 1), -3);
        due("4 high 10", x.need(0, 0, 1, 10), -3);
        due("4 low above high", x.need(0, 0, 5, 4), -3);
        for (int far : FAR) {
            due("4 far unit", x.need(far, 0, 1, 1), -1);
            due("4 far kind", x.need(0, far, 1, 1), -2);
            due("4 far low", x.need(0, 0, far, 9), -3);
            due("4 far high", x.need(0, 0, 1, far), -3);
        }
        due("4 no need was put in", x.sound(1), 1);
        due("4 first", x.need(0, 0, 1, 9), 1);
        due("4 same again counts", x.need(0, 0, 1, 9), 2);
        due("4 third", x.need(0, 61, 9, 9), 3);
        due("4 fourth", x.need(0, 5, 1, 1), -4);
        due("4 other unit", x.need(1, 0, 1, 1), 1);
        needsOfTen();
    }

    /** Every place for a need is used, and the last one is kept apart from the others. */
    private static void needsOfTen() {
        ProvisionAgent x = Agents.plain(10);
        for (int u = 0; u < 10; u++) {
            for (int i = 0; i < 3; i++) {
                int kind = u == 9 && i == 2 ? 5 : 32 + i;
                due("4 need " + i + " of " + u, x.need(u, kind, 1, 9), i + 1);
            }
        }
        due("4 all but the last unit", x.sound(511), 1);
        due("4 the last need of the last unit", x.sound(512), 0);
        x.offer(0, 5, 1);
        due("4 met now", x.sound(513), 1);
    }

    private static void environment() {
        ProvisionAgent x = new ProvisionAgent();
        due("5 first", x.environment(7), 0);
        due("5 -1", x.environment(-1), -1);
        due("5 8", x.environment(8), -1);
        for (int far : FAR) {
            due("5 far", x.environment(far), -1);
        }
        int before = 7;
        for (int bits = 0; bits <= 7; bits++) {
            due("5 before", x.environment(bits), before);
            before = bits;
        }
        for (int condition = 0; condition <= 3; condition++) {
            ProvisionAgent y = Agents.plain(2);
            y.need(0, 8 * condition, 1, 9);
            y.need(1, 32 + 8 * condition, 1, 9);
            for (int bits = 0; bits <= 7; bits++) {
                y.environment(bits);
                boolean applies = condition == 0 || (bits & (1 << (condition - 1))) != 0;
                due("5 applies " + condition + " in " + bits, y.sound(1), applies ? 0 : 1);
                due("5 optional " + condition + " in " + bits, y.cost(2), applies ? 7 : 5);
            }
        }
    }

    private static void units() {
        ProvisionAgent x = new ProvisionAgent();
        for (int u = 0; u < 10; u++) {
            due("6 units", x.units(), u);
            x.unit(u % 5, 1 + u / 5, 0);
        }
        due("6 units", x.units(), 10);
        x.unit(0, 9, 0);
        due("6 refused", x.units(), 10);
    }

    private static void profile() {
        ProvisionAgent x = Agents.five();
        due("7 empty", x.profile(), 0);
        x.apply(21, 0);
        due("7 applied", x.profile(), 21);
        x.plan(31, 0);
        due("7 a plan is a question", x.profile(), 21);
        x.apply(2, 4);
        due("7 applied again", x.profile(), 19);
        x.unit(4, 2, 0);
        due("7 a new unit is not in it", x.profile(), 19);
    }

    private static void soundNames() {
        ProvisionAgent x = new ProvisionAgent();
        x.unit(0, 1, 0);
        x.unit(0, 2, 0);
        x.unit(0, 3, 1);
        x.unit(1, 3, 1);
        due("8 empty", x.sound(0), 1);
        due("8 same name, none single", x.sound(3), 1);
        due("8 the later single", x.sound(5), 0);
        due("8 the later single, next to it", x.sound(6), 0);
        due("8 single alone", x.sound(4), 1);
        due("8 other name single", x.sound(11), 1);
        due("8 singles of two names", x.sound(12), 1);
        due("8 all", x.sound(15), 0);
        due("8 too great", x.sound(16), -1);
        for (int far : FAR) {
            due("8 far", x.sound(far), -1);
        }
        ProvisionAgent y = new ProvisionAgent();
        y.unit(2, 5, 1);
        y.unit(3, 5, 0);
        y.unit(2, 4, 0);
        due("8 the earlier single", y.sound(5), 0);
        due("8 others between", y.sound(7), 0);
        due("8 without it", y.sound(6), 1);
    }

    private static void soundNeeds() {
        ProvisionAgent x = Agents.plain(4);
        x.offer(0, 2, 5);
        x.need(0, 2, 5, 5);
        due("8 meets its own need", x.sound(1), 1);
        x.need(1, 2, 4, 6);
        x.need(1, 32, 1, 9);
        due("8 not met", x.sound(2), 0);
        due("8 met by another", x.sound(3), 1);
        x.need(2, 34, 1, 9);
        due("8 optional", x.sound(4), 1);
        x.need(3, 2, 1, 9);
        x.need(3, 3, 1, 9);
        due("8 one of two not met", x.sound(9), 0);
        x.offer(2, 3, 9);
        due("8 each met by a different one", x.sound(13), 1);
        due("8 a later member without its needs", x.sound(12), 0);
        x.need(3, 4, 1, 9);
        due("8 the third not met", x.sound(13), 0);
    }

    private static void soundRanges() {
        for (int version = 1; version <= 9; version++) {
            ProvisionAgent x = Agents.plain(2);
            x.offer(1, 5, version);
            x.need(0, 5, 3, 7);
            due("8 range with " + version, x.sound(3), version >= 3 && version <= 7 ? 1 : 0);
        }
        ProvisionAgent y = Agents.plain(2);
        y.offer(1, 0, 9);
        y.offer(1, 2, 1);
        y.need(0, 1, 1, 9);
        due("8 neighbouring capabilities do not count", y.sound(3), 0);
        y.offer(1, 1, 9);
        due("8 version 9", y.sound(3), 1);
    }

    private static void cost() {
        ProvisionAgent x = new ProvisionAgent();
        x.unit(0, 2, 0);
        due("9 newest alone", x.cost(1), 5);
        x.unit(0, 9, 0);
        x.unit(1, 3, 0);
        due("9 empty", x.cost(0), 0);
        due("9 older", x.cost(1), 12);
        due("9 newest", x.cost(2), 5);
        due("9 both", x.cost(3), 17);
        due("9 all", x.cost(7), 22);
        due("9 too great", x.cost(8), -1);
        for (int far : FAR) {
            due("9 far", x.cost(far), -1);
        }
        x.apply(5, 0);
        due("9 the profile itself", x.cost(5), 7);
        due("9 all taken out", x.cost(0), 6);
        due("9 one out", x.cost(1), 10);
        due("9 one out, one in", x.cost(6), 8);
        due("9 all out, one in", x.cost(2), 11);
        x.unit(0, 5, 1);
        due("9 not sound", x.cost(15), 7 + 5 + 5 + 4);
        x.unit(1, 8, 1);
        due("9 a newer one came", x.cost(5), 12);
    }

    private static void costOfOptions() {
        ProvisionAgent x = Agents.plain(3);
        x.need(0, 32, 2, 3);
        x.need(0, 32, 2, 3);
        x.need(0, 33, 1, 9);
        due("9 every need counts", x.cost(1), 11);
        due("9 only needs of members", x.cost(2), 5);
        x.offer(1, 0, 3);
        due("9 met", x.cost(3), 12);
        x.offer(0, 1, 1);
        due("9 met by itself", x.cost(3), 10);
        due("9 the other stays", x.cost(1), 9);
        x.need(2, 2, 1, 9);
        due("9 what is not optional costs nothing", x.cost(4), 5);
        x.need(2, 32 + 16, 1, 1);
        due("9 does not apply", x.cost(4), 5);
        x.environment(2);
        due("9 applies", x.cost(4), 7);
    }

    private static void plan() {
        ProvisionAgent x = new ProvisionAgent();
        x.unit(0, 1, 0);
        x.unit(1, 1, 0);
        x.unit(2, 1, 0);
        x.unit(2, 2, 0);
        x.offer(1, 0, 5);
        x.offer(2, 0, 5);
        x.offer(3, 0, 5);
        x.need(0, 0, 5, 5);
        due("10 nothing wanted", x.plan(0, 0), 0);
        due("10 least number of equal cost", x.plan(1, 0), 3);
        due("10 barred", x.plan(1, 2), 9);
        due("10 the dearer one alone is left", x.plan(1, 10), 5);
        due("10 none left", x.plan(1, 14), -2);
        due("10 wanted and barred", x.plan(2, 2), -2);
        due("10 all wanted", x.plan(15, 0), 15);
        due("10 wanted too great", x.plan(16, 0), -1);
        due("10 barred too great", x.plan(0, 16), -1);
        for (int far : FAR) {
            due("10 far wanted", x.plan(far, 0), -1);
            due("10 far barred", x.plan(0, far), -1);
        }
        x.apply(5, 2);
        due("10 the profile counts", x.plan(1, 0), 5);
        due("10 kept though not wanted", x.plan(0, 0), 5);
        ProvisionAgent y = Agents.plain(10);
        due("10 ten units", y.plan(1023, 0), 1023);
        due("10 1024", y.plan(1024, 0), -1);
        due("10 all barred", y.plan(0, 1023), 0);
        keepsOrDrops();
    }

    /** Keeping an old unit may cost more than taking it out (3), as much, or less. */
    private static void keepsOrDrops() {
        for (int newest = 3; newest <= 5; newest++) {
            ProvisionAgent x = new ProvisionAgent();
            x.unit(0, 1, 0);
            x.apply(1, 0);
            x.unit(0, newest, 0);
            due("10 keep up to version " + newest, x.plan(0, 0), newest == 3 ? 1 : 0);
            due("11 keep up to version " + newest, x.planCost(0, 0), newest == 3 ? 2 : 3);
        }
    }

    private static void planCost() {
        ProvisionAgent x = new ProvisionAgent();
        x.unit(0, 1, 1);
        x.unit(0, 4, 0);
        x.unit(1, 1, 0);
        x.need(2, 32, 1, 9);
        due("11 nothing", x.planCost(0, 0), 0);
        due("11 one", x.planCost(1, 0), 8);
        due("11 option not met", x.planCost(4, 0), 7);
        due("11 rivals", x.planCost(3, 0), -2);
        due("11 wanted and barred", x.planCost(1, 1), -2);
        due("11 wanted too great", x.planCost(8, 0), -1);
        due("11 barred too great", x.planCost(0, 8), -1);
        for (int far : FAR) {
            due("11 far wanted", x.planCost(far, 0), -1);
            due("11 far barred", x.planCost(3, far), -1);
        }
        x.apply(4, 0);
        due("11 after apply", x.planCost(2, 0), 7);
        due("11 taking out", x.planCost(2, 4), 8);
    }

    private static void excess() {
        ProvisionAgent x = new ProvisionAgent();
        x.unit(0, 1, 1);
        x.unit(0, 2, 1);
        x.unit(0, 3, 0);
        x.unit(1, 1, 0);
        x.unit(2, 1, 0);
        x.need(3, 1, 1, 9);
        x.offer(4, 1, 9);
        due("12 nothing", x.excess(0, 0), 0);
        due("12 the first alone", x.excess(1, 0), 0);
        due("12 rivals", x.excess(3, 0), 1);
        due("12 three rivals", x.excess(7, 0), 2);
        due("12 needs a barred one", x.excess(8, 16), 1);
        due("12 barred alone", x.excess(0, 31), 0);
        due("12 wanted and barred", x.excess(4, 4), 1);
        due("12 both wanted and barred", x.excess(31, 31), 5);
        due("12 give up the barred one, not both wanted", x.excess(24, 16), 1);
        due("12 everything wanted", x.excess(31, 0), 2);
        due("12 rivals and a barred one", x.excess(11, 16), 2);
        x.need(3, 2, 1, 9);
        due("12 can never be", x.excess(8, 0), 1);
        due("12 wanted too great", x.excess(32, 0), -1);
        due("12 barred too great", x.excess(0, 32), -1);
        for (int far : FAR) {
            due("12 far wanted", x.excess(far, 0), -1);
            due("12 far barred", x.excess(0, far), -1);
        }
        // Two wanted units need the barred one: giving up that single demand is cheaper than giving up both.
        ProvisionAgent y = Agents.plain(3);
        y.need(0, 0, 1, 9);
        y.need(1, 0, 1, 9);
        y.offer(2, 0, 1);
        due("12 one barred for two wanted", y.excess(3, 4), 1);
    }

    private static void apply() {
        ProvisionAgent x = Agents.five();
        due("13 wanted too great", x.apply(32, 0), -1);
        due("13 barred too great", x.apply(0, 32), -1);
        for (int far : FAR) {
            due("13 far wanted", x.apply(far, 0), -1);
            due("13 far barred", x.apply(0, far), -1);
        }
        due("13 no plan", x.apply(1, 1), -2);
        due("13 not noted", x.notes(), 0);
        due("13 three in", x.apply(7, 0), 3);
        due("13 one out, one in", x.apply(8, 1), 2);
        due("13 profile", x.profile(), 14);
        due("13 no step", x.apply(2, 16), 0);
        due("13 noted", x.notes(), 3);
        due("13 all out", x.apply(0, 31), 3);
        due("13 ten in", Agents.plain(10).apply(1023, 0), 10);
    }

    private static void fail() {
        ProvisionAgent x = Agents.five();
        x.apply(7, 0);
        due("14 wanted too great", x.fail(32, 0, 0), -1);
        due("14 barred too great", x.fail(0, 32, 0), -1);
        due("14 no plan", x.fail(1, 1, 0), -2);
        due("14 k -1", x.fail(24, 7, -1), -3);
        due("14 k 5", x.fail(24, 7, 5), -3);
        for (int far : FAR) {
            due("14 far k", x.fail(24, 7, far), -3);
            due("14 far wanted", x.fail(far, 0, 0), -1);
        }
        due("14 no step at all", x.fail(0, 0, 0), -3);
        touches("14 refused", x, 1, 1, 1, 0, 0);
        due("14 k 0", x.fail(24, 7, 0), 0);
        touches("14 k 0", x, 1, 1, 1, 0, 0);
        due("14 k 1", x.fail(24, 7, 1), 2);
        touches("14 out in falling order", x, 1, 1, 3, 0, 0);
        due("14 k 2", x.fail(24, 7, 2), 4);
        touches("14 k 2", x, 1, 3, 5, 0, 0);
        due("14 k 3", x.fail(24, 7, 3), 6);
        touches("14 k 3", x, 3, 5, 7, 0, 0);
        due("14 k 4", x.fail(24, 7, 4), 8);
        touches("14 in in rising order", x, 5, 7, 9, 2, 0);
        due("14 profile stays", x.profile(), 7);
        due("14 history stays", x.notes(), 1);
        due("14 note stays", x.note(0), 7);
        due("14 then it succeeds", x.apply(24, 7), 5);
        touches("14 then it succeeds", x, 6, 8, 10, 3, 1);
        failWithTen();
    }

    private static void failWithTen() {
        ProvisionAgent x = Agents.plain(10);
        due("14 ten in, all but the last", x.fail(1023, 0, 9), 18);
        touches("14 ten in, all but the last", x, 2, 2, 2, 2, 2, 2, 2, 2, 2, 0);
        due("14 ten in, no step 10", x.fail(1023, 0, 10), -3);
        x.apply(1023, 0);
        due("14 ten out, all but the last", x.fail(0, 1023, 9), 18);
        touches("14 ten out, all but the last", x, 3, 5, 5, 5, 5, 5, 5, 5, 5, 3);
    }

    private static void touches(String what, ProvisionAgent x, int... counts) {
        for (int u = 0; u < counts.length; u++) {
            due(what + ": touched(" + u + ")", x.touched(u), counts[u]);
        }
    }

    private static void revert() {
        ProvisionAgent x = Agents.five();
        x.apply(3, 0);
        x.apply(12, 3);
        due("15 i -1", x.revert(-1), -1);
        due("15 i 2", x.revert(2), -1);
        for (int far : FAR) {
            due("15 far", x.revert(far), -1);
        }
        due("15 back", x.revert(0), 4);
        due("15 profile", x.profile(), 3);
        due("15 noted", x.note(2), 3);
        touches("15 back", x, 3, 3, 2, 2, 0);
        due("15 to where it is", x.revert(0), 0);
        due("15 noted again", x.notes(), 4);
        x.need(2, 8, 1, 9);
        x.environment(1);
        due("15 not sound", x.sound(12), 0);
        due("15 to what is not sound", x.revert(1), 4);
        due("15 profile not sound", x.profile(), 12);
        due("15 and on from there", x.plan(0, 0), 8);
    }

    private static void notes() {
        ProvisionAgent x = Agents.five();
        for (int i = 0; i < 12; i++) {
            due("16 notes", x.notes(), i < 8 ? i : 8);
            x.apply(1 << (i % 5), 0);
        }
        due("16 notes", x.notes(), 8);
        x.revert(0);
        due("16 after revert", x.notes(), 8);
        x.fail(0, 31, 1);
        due("16 after fail", x.notes(), 8);
    }

    private static void note() {
        ProvisionAgent x = Agents.plain(10);
        for (int i = 0; i < 8; i++) {
            x.apply(1 << i, 1023 & ~(1 << i));
        }
        for (int i = 0; i < 8; i++) {
            due("17 note", x.note(i), 1 << i);
        }
        due("17 i -1", x.note(-1), -1);
        due("17 i 8", x.note(8), -1);
        for (int far : FAR) {
            due("17 far", x.note(far), -1);
        }
        x.apply(256, 255);
        due("17 the first is dropped", x.note(0), 2);
        due("17 the last is new", x.note(7), 256);
        due("17 revert to the one that is dropped then", x.revert(0), 2);
        due("17 its profile", x.profile(), 2);
        for (int i = 0; i < 6; i++) {
            due("17 moved on", x.note(i), 4 << i);
        }
        due("17 noted before", x.note(6), 256);
        due("17 noted last", x.note(7), 2);
        due("17 revert to the last", x.revert(7), 0);
        due("17 once more", x.note(6), 2);
    }

    private static void touched() {
        ProvisionAgent x = Agents.plain(2);
        due("18 at first", x.touched(0), 0);
        due("18 -1", x.touched(-1), -1);
        due("18 no such unit", x.touched(2), -1);
        for (int far : FAR) {
            due("18 far", x.touched(far), -1);
        }
        for (int i = 1; i <= 100; i++) {
            x.apply(1, 0);
            x.apply(0, 1);
            due("18 in and out", x.touched(0), 2 * i);
        }
        due("18 the other", x.touched(1), 0);
        x.unit(4, 9, 0);
        due("18 a new one", x.touched(2), 0);
        due("18 past the new one", x.touched(3), -1);
        x.unit(3, 9, 0);
        x.apply(15, 0);
        x.revert(0);
        touches("18 revert touches too", x, 202, 2, 2, 2);
    }

    private static void orderAndLimits() {
        ProvisionAgent x = new ProvisionAgent();
        due("19 no notes", x.notes(), 0);
        due("19 apply without steps", x.apply(0, 0), 0);
        due("19 is noted", x.notes(), 1);
        due("19 as the empty set", x.note(0), 0);
        due("19 revert without steps", x.revert(0), 0);
        due("19 is noted too", x.notes(), 2);
        for (int i = 0; i < 10; i++) {
            x.revert(0);
        }
        due("19 no more than 8", x.notes(), 8);
        x.unit(0, 1, 0);
        x.apply(1, 0);
        due("19 at the end", x.note(7), 1);
        due("19 the one before", x.note(6), 0);
    }
}
