/**
 * For each sentence of the document's "Terms" that names a boundary case a test of its own; those of the last
 * paragraph, which speak of all calls, are in CallsTest.
 */
public final class TermsTest {
    private static final Check CHECK = new Check();
    /** Every other one of ten units, from 0 on, and the five others. */
    private static final int EVEN = 341;
    private static final int ODD = 682;

    public static void main(String[] args) {
        CHECK.sentence("There is a list of at most 10 UNITS", TermsTest::atMostTenUnits);
        CHECK.sentence("numbered 0, 1, 2, .. in their order", TermsTest::numberedInTheirOrder);
        CHECK.sentence("A unit has a NAME 0 .. 4", TermsTest::names);
        CHECK.sentence("and a VERSION 1 .. 9", TermsTest::versions);
        CHECK.sentence("no two units have the same name and version", TermsTest::noTwoAlike);
        CHECK.sentence("may be SINGLE", TermsTest::mayBeSingle);
        CHECK.sentence("OFFERS at most 3 capabilities", TermsTest::atMostThreeOffers);
        CHECK.sentence("each a number 0 .. 5 with a version 1 .. 9", TermsTest::offeredCapabilities);
        CHECK.sentence("and has at most 3 NEEDS", TermsTest::atMostThreeNeeds);
        CHECK.sentence("A need asks for a capability 0 .. 5", TermsTest::neededCapabilities);
        CHECK.sentence("with a version in a range low .. high", TermsTest::neededRange);
        CHECK.sentence("may be OPTIONAL", TermsTest::mayBeOptional);
        CHECK.sentence("with 0 it always applies, with k > 0 only if bit k - 1 of the ENVIRONMENT",
                TermsTest::conditions);
        CHECK.sentence("the ENVIRONMENT (0 .. 7, 0 at first)", TermsTest::environmentAtFirst);
        CHECK.sentence("A set of units is written as the sum of 2^u over its members", TermsTest::setsAsSums);
        CHECK.sentence("it MEETS a need if some member offers the capability with a version in the range",
                TermsTest::someMemberOffers);
        CHECK.sentence("the unit with the need may be that member", TermsTest::theUnitItselfMayOffer);
        CHECK.sentence("no two members have the same name with at least one of the two single", TermsTest::soundNames);
        CHECK.sentence("it meets every need of every member that applies and is not optional", TermsTest::soundNeeds);
        CHECK.sentence("The empty set is sound.", TermsTest::emptySetIsSound);
        CHECK.sentence("THE PROFILE is a set of units, empty at first.", TermsTest::profileIsEmptyAtFirst);
        CHECK.sentence("THE COST of a set is 5 for every member that is not in the profile",
                TermsTest::costOfNewMembers);
        CHECK.sentence("plus 3 for every unit of the profile that is no member", TermsTest::costOfLostMembers);
        CHECK.sentence("plus 2 for every need of a member that applies, is optional, and is not met",
                TermsTest::costOfOptions);
        CHECK.sentence("the greatest version of a unit (of the list) with its name, less its own version",
                TermsTest::costOfOldVersions);
        CHECK.sentence("THE PLAN for a request is, among the sound sets", TermsTest::planIsSound);
        CHECK.sentence("that contain all wanted units and no barred one", TermsTest::planHoldsWantedAndNoBarred);
        CHECK.sentence("the one of least cost", TermsTest::planIsCheapest);
        CHECK.sentence("and among those the one with the least number", TermsTest::planHasTheLeastNumber);
        CHECK.sentence("taken out, in falling order of numbers, then the units of it that are not in the profile",
                TermsTest::outFallingThenInRising);
        CHECK.sentence("each of these is a STEP, numbered 0, 1, 2, ...", TermsTest::stepsAreNumberedFromZero);
        CHECK.sentence("At the end the set becomes the profile, and the profile is noted at the end of the HISTORY",
                TermsTest::becomesProfileAndIsNoted);
        CHECK.sentence("the first note is dropped when there would be more than 8", TermsTest::firstNoteIsDropped);
        CHECK.sentence("Every step TOUCHES its unit once.", TermsTest::everyStepTouchesOnce);
        CHECK.sentence("undone in reverse order, which touches their units once more; profile and history stay.",
                TermsTest::failedChangeIsUndone);
        CHECK.end();
    }

    private static void due(String what, int got, int want) {
        CHECK.due(what, got, want);
    }

    private static void atMostTenUnits() {
        ProvisionAgent x = Agents.plain(9);
        due("the tenth", x.unit(4, 2, 0), 9);
        due("units", x.units(), 10);
        for (int name = 0; name < 5; name++) {
            due("an eleventh", x.unit(name, 9, 0), -4);
        }
        due("units after that", x.units(), 10);
        due("the sets of ten", x.sound(1023), 1);
        due("no set of eleven", x.sound(1024), -1);
    }

    private static void numberedInTheirOrder() {
        ProvisionAgent x = new ProvisionAgent();
        for (int u = 0; u < 10; u++) {
            due("number", x.unit(4 - u % 5, 9 - u / 5, 0), u);
            due("a refused one takes no number", x.unit(4 - u % 5, 9 - u / 5, 0), -3);
        }
        x.apply(1, 0);
        // Unit 0 is the one of version 9, and unit 5 the one of its name with version 8.
        due("cost of unit 0", x.cost(1), 0);
        due("cost of unit 5", x.cost(1 | 32), 6);
    }

    private static void names() {
        ProvisionAgent x = new ProvisionAgent();
        for (int name = 0; name <= 4; name++) {
            due("name " + name, x.unit(name, 5, 1), name);
        }
        due("five names do not clash", x.sound(31), 1);
        for (int name = 0; name <= 4; name++) {
            due("name " + name + " again", x.unit(name, 6, 0), 5 + name);
            due("clashes with its like", x.sound(1 << name | 32 << name), 0);
            due("and with no other", x.sound(31 & ~(1 << name) | 32 << name), 1);
        }
    }

    private static void versions() {
        ProvisionAgent x = new ProvisionAgent();
        for (int version = 1; version <= 9; version++) {
            due("version " + version, x.unit(0, version, 0), version - 1);
        }
        for (int version = 1; version <= 9; version++) {
            due("cost of version " + version, x.cost(1 << (version - 1)), 5 + 9 - version);
        }
    }

    private static void noTwoAlike() {
        ProvisionAgent x = new ProvisionAgent();
        x.unit(2, 5, 0);
        due("the same at once", x.unit(2, 5, 0), -3);
        due("the same, but single", x.unit(2, 5, 1), -3);
        due("another version", x.unit(2, 6, 0), 1);
        due("another name", x.unit(3, 5, 0), 2);
        due("the two swapped", x.unit(3, 6, 0), 3);
        for (int u = 4; u < 9; u++) {
            x.unit(1, u, 0);
        }
        due("the first one's like, later", x.unit(2, 5, 0), -3);
        due("the last one's like", x.unit(1, 8, 0), -3);
        due("units", x.units(), 9);
    }

    private static void mayBeSingle() {
        for (int first = 0; first <= 1; first++) {
            for (int second = 0; second <= 1; second++) {
                ProvisionAgent x = new ProvisionAgent();
                x.unit(0, 1, first);
                x.unit(0, 2, second);
                due("single " + first + " and " + second, x.sound(3), first + second == 0 ? 1 : 0);
            }
        }
    }

    private static void atMostThreeOffers() {
        ProvisionAgent x = Agents.plain(10);
        for (int u = 0; u < 10; u++) {
            for (int i = 0; i < 3; i++) {
                due("offer " + i + " of unit " + u, x.offer(u, i, 1 + u % 9), i + 1);
            }
            due("a fourth of unit " + u, x.offer(u, 5, 9), -4);
        }
        x.need(0, 5, 1, 9);
        due("no fourth was taken in", x.sound(1023), 0);
        x.need(1, 2, 9, 9);
        due("the third was, of unit 8", x.sound(2 | 256), 1);
        due("but not of the others", x.sound(1023 & ~256 & ~1), 0);
    }

    private static void offeredCapabilities() {
        for (int capability = 0; capability <= 5; capability++) {
            for (int version = 1; version <= 9; version++) {
                ProvisionAgent x = Agents.plain(2);
                String what = "capability " + capability + ", version " + version;
                due(what, x.offer(0, capability, version), 1);
                x.need(1, capability, version, version);
                due(what + " offered", x.sound(3), 1);
                due(what + " not offered", x.sound(2), 0);
            }
        }
    }

    private static void atMostThreeNeeds() {
        ProvisionAgent x = Agents.plain(10);
        for (int u = 0; u < 10; u++) {
            for (int i = 0; i < 3; i++) {
                due("need " + i + " of unit " + u, x.need(u, 32, 1, 9), i + 1);
                due("cost with it", x.cost(1 << u), (u < 5 ? 6 : 5) + 2 * (i + 1));
            }
            due("a fourth of unit " + u, x.need(u, 0, 1, 9), -4);
            due("cost as before", x.cost(1 << u), (u < 5 ? 6 : 5) + 6);
            due("sound as before", x.sound(1 << u), 1);
        }
    }

    private static void neededCapabilities() {
        for (int asked = 0; asked <= 5; asked++) {
            for (int offered = 0; offered <= 5; offered++) {
                ProvisionAgent x = Agents.plain(2);
                x.offer(1, offered, 1);
                x.offer(1, offered, 9);
                due("capability " + asked, x.need(0, asked, 1, 9), 1);
                due("asked " + asked + ", offered " + offered, x.sound(3), asked == offered ? 1 : 0);
            }
        }
    }

    private static void neededRange() {
        for (int low = 1; low <= 9; low++) {
            for (int high = low; high <= 9; high++) {
                for (int version = 1; version <= 9; version++) {
                    ProvisionAgent x = Agents.plain(2);
                    x.offer(1, 3, version);
                    x.need(0, 3, low, high);
                    boolean within = low <= version && version <= high;
                    due(version + " in " + low + " .. " + high, x.sound(3), within ? 1 : 0);
                }
            }
        }
    }

    private static void mayBeOptional() {
        for (int optional = 0; optional <= 1; optional++) {
            for (int i = 0; i < 3; i++) {
                ProvisionAgent x = Agents.plain(1);
                x.offer(0, 0, 1);
                for (int other = 0; other < i; other++) {
                    x.need(0, 0, 1, 1);
                }
                x.need(0, 32 * optional + 1, 1, 9);
                due("optional " + optional + " at place " + i, x.sound(1), optional);
                due("its cost", x.cost(1), 5 + 2 * optional);
            }
        }
    }

    private static void conditions() {
        for (int condition = 0; condition <= 3; condition++) {
            ProvisionAgent x = Agents.plain(2);
            x.need(0, 8 * condition + 5, 1, 9);
            x.need(1, 32 + 8 * condition + 5, 1, 9);
            for (int bits = 0; bits <= 7; bits++) {
                x.environment(bits);
                boolean applies = condition == 0 || (bits >> (condition - 1)) % 2 == 1;
                String what = "condition " + condition + " in environment " + bits;
                due(what, x.sound(1), applies ? 0 : 1);
                due(what + ", optional", x.cost(2), applies ? 7 : 5);
            }
        }
    }

    private static void environmentAtFirst() {
        ProvisionAgent x = Agents.plain(3);
        for (int condition = 1; condition <= 3; condition++) {
            x.need(condition - 1, 8 * condition, 1, 9);
        }
        due("no condition holds at first", x.sound(7), 1);
        due("the first one", x.environment(7), 0);
        for (int u = 0; u < 3; u++) {
            due("in 7 all of them hold", x.sound(1 << u), 0);
        }
        due("and back to 0", x.environment(0), 7);
        due("none holds again", x.sound(7), 1);
        due("a new object's own", new ProvisionAgent().environment(1), 0);
    }

    private static void setsAsSums() {
        for (int u = 0; u < 10; u++) {
            ProvisionAgent x = Agents.plain(10);
            due("unit " + u + " alone", x.plan(1 << u, 0), 1 << u);
            due("put in", x.apply(1 << u, 0), 1);
            due("the profile", x.profile(), 1 << u);
            for (int other = 0; other < 10; other++) {
                due("touched " + other, x.touched(other), other == u ? 1 : 0);
            }
        }
    }

    private static void someMemberOffers() {
        ProvisionAgent x = Agents.plain(10);
        x.offer(0, 1, 1);
        x.offer(9, 1, 2);
        x.offer(9, 2, 5);
        x.offer(8, 1, 8);
        x.need(5, 1, 2, 7);
        due("nobody", x.sound(32), 0);
        due("the first unit's version is too small", x.sound(32 | 1), 0);
        due("another's is too large", x.sound(32 | 256), 0);
        due("too small and too large", x.sound(32 | 256 | 1), 0);
        due("the last unit offers it", x.sound(32 | 512), 1);
        due("one that is no member does not count", x.sound(1023 & ~512), 0);
        due("one is enough", x.sound(1023), 1);
        x.offer(1, 2, 3);
        due("the right capability with the wrong version elsewhere", x.sound(32 | 2 | 1), 0);
    }

    private static void theUnitItselfMayOffer() {
        ProvisionAgent x = Agents.plain(2);
        x.need(0, 4, 3, 3);
        due("before it offers", x.sound(1), 0);
        x.offer(0, 4, 3);
        due("it offers", x.sound(1), 1);
        x.need(1, 36, 3, 3);
        due("not met by the one beside the set", x.cost(2), 7);
        x.offer(1, 4, 3);
        due("an optional one, met by itself", x.cost(2), 5);
    }

    private static void soundNames() {
        // Units 0 .. 3 share a name, and unit 2 is single; unit 4 is a single one of another name.
        ProvisionAgent x = new ProvisionAgent();
        for (int u = 0; u < 4; u++) {
            x.unit(4, 1 + u, u == 2 ? 1 : 0);
        }
        x.unit(0, 9, 7);
        for (int set = 0; set < 32; set++) {
            boolean clash = (set & 4) != 0 && (set & 11) != 0;
            due("set " + set, x.sound(set), clash ? 0 : 1);
        }
    }

    private static void soundNeeds() {
        // Of every unit and every place in turn, one need alone is not met.
        for (int u = 0; u < 10; u++) {
            for (int i = 0; i < 3; i++) {
                ProvisionAgent x = withOneNeedUnmet(u, i);
                String what = "need " + i + " of unit " + u;
                due(what, x.sound(1023), 0);
                due(what + " is none of the others'", x.sound(1023 & ~(1 << u)), u == 0 ? 0 : 1);
                x.offer(u, 5, 9);
                due(what + " met", x.sound(1023), 1);
            }
        }
        ProvisionAgent y = Agents.plain(1);
        y.need(0, 24, 1, 9);
        y.need(0, 32, 1, 9);
        due("what does not apply, and what is optional", y.sound(1), 1);
        y.environment(4);
        due("what applies now", y.sound(1), 0);
    }

    /** Unit 0 offers what all but one need ask for. */
    private static ProvisionAgent withOneNeedUnmet(int unit, int place) {
        ProvisionAgent x = Agents.plain(10);
        x.offer(0, 0, 1);
        for (int u = 0; u < 10; u++) {
            for (int i = 0; i < 3; i++) {
                x.need(u, u == unit && i == place ? 5 : 0, 1, 9);
            }
        }
        return x;
    }

    private static void emptySetIsSound() {
        due("without units", new ProvisionAgent().sound(0), 1);
        ProvisionAgent x = new ProvisionAgent();
        for (int u = 0; u < 9; u++) {
            x.unit(0, 1 + u, 1);
            x.need(u, 0, 1, 9);
            due("with units of which none can be", x.sound(0), 1);
            due("where one alone is not sound", x.sound(1 << u), 0);
        }
        due("it is the plan then", x.plan(0, 0), 0);
        due("with all units barred", x.plan(0, 511), 0);
        ProvisionAgent y = Agents.five();
        y.apply(31, 0);
        due("beside a profile", y.sound(0), 1);
    }

    private static void profileIsEmptyAtFirst() {
        ProvisionAgent x = new ProvisionAgent();
        due("a new object's", x.profile(), 0);
        for (int u = 0; u < 10; u++) {
            x.unit(u % 5, 1 + u / 5, 1);
            due("units that are put in the list are not in it", x.profile(), 0);
        }
    }

    private static void costOfNewMembers() {
        ProvisionAgent x = Agents.five();
        for (int size = 0; size <= 5; size++) {
            due("of " + size, x.cost((1 << size) - 1), 5 * size);
        }
        x.apply(21, 0);
        due("the profile itself", x.cost(21), 0);
        due("one more", x.cost(23), 5);
        due("two more", x.cost(31), 10);
        // Ten units: the five older ones cost 1 each on top.
        due("all of ten", Agents.plain(10).cost(1023), 55);
    }

    private static void costOfLostMembers() {
        ProvisionAgent x = Agents.plain(10);
        due("nothing to lose", x.cost(0), 0);
        x.apply(1023, 0);
        due("all ten", x.cost(0), 30);
        due("all but the last", x.cost(512), 27);
        due("the last", x.cost(511), 3 + 5);
        due("none", x.cost(1023), 5);
        Agents.become(x, 512);
        due("one out, one in", x.cost(256), 3 + 5);
    }

    private static void costOfOptions() {
        ProvisionAgent x = Agents.plain(10);
        for (int u = 0; u < 10; u++) {
            x.need(u, 32, 5, 5);
            x.need(u, 32, 5, 5);
            x.need(u, 32 + 8, 5, 5);
        }
        due("those of no member", x.cost(0), 0);
        due("the third does not apply", x.cost(512), 5 + 4);
        due("those of all", x.cost(1023), 55 + 40);
        x.environment(1);
        due("the third applies", x.cost(512), 5 + 6);
        due("all thirty", x.cost(1023), 55 + 60);
        x.offer(9, 0, 5);
        due("all met", x.cost(1023), 55);
        due("met by a member alone", x.cost(511), 50 + 54);
        x.apply(512, 0);
        due("in the profile, but no member", x.cost(0), 3);
        ProvisionAgent y = Agents.plain(1);
        y.need(0, 0, 1, 9);
        due("one that is not optional", y.cost(1), 5);
    }

    private static void costOfOldVersions() {
        ProvisionAgent x = new ProvisionAgent();
        x.unit(3, 1, 0);
        due("the greatest itself", x.cost(1), 5);
        x.unit(2, 9, 0);
        due("one of another name is greater", x.cost(1), 5);
        for (int version = 2; version <= 9; version++) {
            x.unit(3, version, 0);
            due("version " + version + " of its name came", x.cost(1), 5 + version - 1);
            due("the new one itself", x.cost(1 << version), 5);
        }
        due("for every member", x.cost(1023), 50 + 36);
        x.apply(1, 1022);
        due("also for one in the profile", x.cost(1), 8);
        due("not for one that is no member", x.cost(512), 5 + 3);
        ProvisionAgent y = new ProvisionAgent();
        y.unit(0, 9, 0);
        y.unit(0, 8, 0);
        due("a smaller one that came later", y.cost(1), 5);
        due("its own", y.cost(2), 6);
    }

    private static void planIsSound() {
        ProvisionAgent x = new ProvisionAgent();
        x.unit(0, 1, 1);
        x.unit(0, 2, 0);
        x.unit(1, 1, 0);
        x.need(2, 0, 1, 9);
        x.offer(0, 0, 1);
        due("the cheapest set is not sound", x.plan(4, 0), 5);
        due("no sound set with rivals", x.plan(3, 0), -2);
        due("none with a rival of what is needed", x.plan(6, 0), -2);
        x.apply(4, 0);
        x.need(0, 9, 1, 9);
        x.environment(1);
        due("the profile is not sound any more", x.plan(0, 0), 0);
        due("a plan with it", x.plan(4, 0), -2);
    }

    private static void planHoldsWantedAndNoBarred() {
        ProvisionAgent x = Agents.five();
        due("no unit asked", x.plan(0, 0), 0);
        due("all wanted", x.plan(31, 0), 31);
        due("all barred", x.plan(0, 31), 0);
        for (int wanted = 0; wanted < 32; wanted++) {
            due("wanted " + wanted + ", the others barred", x.plan(wanted, 31 - wanted), wanted);
            due("wanted and barred " + wanted, x.plan(wanted, wanted), wanted == 0 ? 0 : -2);
        }
        x.apply(31, 0);
        for (int barred = 0; barred < 32; barred++) {
            due("barred " + barred + " of the profile", x.plan(0, barred), 31 - barred);
        }
    }

    private static void planIsCheapest() {
        // Unit 9 needs what units 0 .. 8 offer; of these the greatest version is the cheapest.
        ProvisionAgent x = new ProvisionAgent();
        for (int u = 0; u < 9; u++) {
            x.unit(0, 1 + u, 0);
            x.offer(u, 0, 1);
        }
        x.unit(1, 1, 0);
        x.need(9, 0, 1, 9);
        for (int left = 8; left >= 0; left--) {
            int barred = 511 & ~((2 << left) - 1);
            due("units 0 .. " + left + " left", x.plan(512, barred), 512 | 1 << left);
            due("its cost", x.planCost(512, barred), 10 + 8 - left);
        }
        due("none left", x.plan(512, 511), -2);
        x.apply(1, 0);
        due("the oldest is in the profile", x.profile(), 1);
        // Keeping it costs 8; taking it out and the newest in costs 8 too: the lesser number.
        due("as dear as the newest", x.plan(512, 0), 513);
    }

    private static void planHasTheLeastNumber() {
        due("of five that differ in number alone", fiveWaysAlike().plan(512, 0), 513);
        due("of the last two of them", fiveWaysAlike().plan(512, 7), 520);
        // Units 0 and 1 together cost what unit 2 costs alone: the lesser number has more members.
        ProvisionAgent x = new ProvisionAgent();
        x.unit(0, 1, 0);
        x.unit(1, 1, 0);
        x.unit(2, 1, 0);
        x.unit(3, 1, 0);
        x.unit(2, 6, 0);
        x.offer(0, 0, 1);
        x.need(0, 1, 1, 1);
        x.offer(1, 1, 1);
        x.offer(2, 0, 1);
        x.need(3, 0, 1, 1);
        due("one way's cost", x.cost(11), 15);
        due("the other's", x.cost(12), 15);
        due("more members, but a lesser number", x.plan(8, 0), 11);
        // A unit of the profile that is three versions old costs as much as taking it out.
        ProvisionAgent y = new ProvisionAgent();
        y.unit(0, 1, 0);
        y.apply(1, 0);
        y.unit(0, 4, 0);
        due("keeping it", y.cost(1), 3);
        due("taking it out", y.cost(0), 3);
        due("the empty set is the least", y.plan(0, 0), 0);
    }

    /** Unit 9 needs what any of units 0 .. 4 offers at the same cost. */
    private static ProvisionAgent fiveWaysAlike() {
        ProvisionAgent x = Agents.plain(10);
        for (int u = 0; u < 5; u++) {
            x.offer(u, 0, 1);
        }
        x.need(9, 0, 1, 1);
        return x;
    }

    private static void outFallingThenInRising() {
        int[] order = {8, 6, 4, 2, 0, 1, 3, 5, 7, 9};
        for (int k = 0; k < 10; k++) {
            ProvisionAgent x = Agents.plain(10);
            Agents.become(x, EVEN);
            due("fail at " + k, x.fail(ODD, EVEN, k), 2 * k);
            for (int step = 0; step < 10; step++) {
                int before = order[step] % 2 == 0 ? 1 : 0;
                int want = step < k ? before + 2 : before;
                due("failed at " + k + ", touched(" + order[step] + ")", x.touched(order[step]), want);
            }
        }
    }

    private static void stepsAreNumberedFromZero() {
        for (int size = 0; size <= 10; size++) {
            ProvisionAgent x = Agents.plain(10);
            int set = (1 << size) - 1;
            for (int k = -1; k <= 11; k++) {
                due(size + " in, step " + k, x.fail(set, 1023 - set, k), 0 <= k && k < size ? 2 * k : -3);
            }
            x.apply(set, 1023 - set);
            for (int k = -1; k <= 11; k++) {
                due(size + " out, step " + k, x.fail(0, 1023, k), 0 <= k && k < size ? 2 * k : -3);
            }
        }
    }

    private static void becomesProfileAndIsNoted() {
        ProvisionAgent x = Agents.plain(10);
        int[] sets = {EVEN, ODD, 0, 1023, 512, 1};
        for (int i = 0; i < sets.length; i++) {
            Agents.become(x, sets[i]);
            due("profile", x.profile(), sets[i]);
            due("notes", x.notes(), i + 1);
            due("the last note", x.note(i), sets[i]);
        }
        for (int i = 0; i < sets.length; i++) {
            due("the notes before it", x.note(i), sets[i]);
        }
        x.revert(3);
        due("reverted", x.profile(), 1023);
        due("noted too", x.note(6), 1023);
        due("the one before stays", x.note(5), 1);
    }

    private static void firstNoteIsDropped() {
        ProvisionAgent x = Agents.plain(10);
        for (int made = 1; made <= 30; made++) {
            Agents.become(x, 31 * made);
            int kept = made < 8 ? made : 8;
            due("notes after " + made, x.notes(), kept);
            for (int i = 0; i < kept; i++) {
                due("after " + made + ", note(" + i + ")", x.note(i), 31 * (made - kept + 1 + i));
            }
            due("after " + made + ", none past the last", x.note(kept), -1);
        }
        // The first note is gone to and dropped in the same call.
        int first = x.note(0);
        int second = x.note(1);
        x.revert(0);
        due("the profile is what was the first", x.profile(), first);
        due("the second is the first now", x.note(0), second);
        due("and the first the last", x.note(7), first);
        due("still 8", x.notes(), 8);
    }

    private static void everyStepTouchesOnce() {
        ProvisionAgent x = Agents.plain(10);
        Agents.become(x, EVEN);
        Agents.become(x, 1023);
        Agents.become(x, ODD);
        x.revert(1);
        x.apply(0, 0);
        for (int u = 0; u < 10; u++) {
            // In, out and in for the even ones; in alone for the odd ones.
            due("touched(" + u + ")", x.touched(u), u % 2 == 0 ? 3 : 1);
        }
    }

    private static void failedChangeIsUndone() {
        for (int k = 0; k < 10; k++) {
            ProvisionAgent x = Agents.plain(10);
            Agents.become(x, EVEN);
            x.fail(ODD, EVEN, k);
            due("the profile stays", x.profile(), EVEN);
            due("the history stays", x.notes(), 1);
            due("its note stays", x.note(0), EVEN);
            due("the cost of the profile", x.cost(EVEN), 3);
            int sum = 0;
            for (int u = 0; u < 10; u++) {
                sum += x.touched(u);
            }
            due("touched in all", sum, 5 + 2 * k);
            due("afterwards it can succeed", x.apply(ODD, EVEN), 10);
        }
        ProvisionAgent y = Agents.plain(10);
        for (int i = 0; i < 8; i++) {
            Agents.become(y, 1 << i);
        }
        y.fail(1023, 0, 9);
        for (int i = 0; i < 8; i++) {
            due("a full history stays", y.note(i), 1 << i);
        }
    }
}
