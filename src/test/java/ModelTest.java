import java.util.ArrayList;
import java.util.List;

/**
 * Long runs of calls, right and wrong ones, whose answers are held against a second, slower telling of the document.
 * The runs are made from a fixed seed, so that every run of this test makes the same calls.
 */
public final class ModelTest {
    private static final int RUNS = 240;
    private static final int CALLS = 512;
    private static final Check CHECK = new Check();
    private static long seed = 20261115L;

    public static void main(String[] args) {
        for (int run = 0; run < RUNS && CHECK.clean(); run++) {
            oneRun(run);
        }
        CHECK.end();
    }

    private static int pick(int low, int high) {
        seed = seed * 6364136223846793005L + 1442695040888963407L;
        return low + (int) ((seed >>> 33) % (high - low + 1));
    }

    /** Mostly within low .. high, now and then just outside, seldom far away. */
    private static int about(int low, int high) {
        int chance = pick(0, 59);
        if (chance == 0) {
            return low - 1;
        }
        if (chance == 1) {
            return high + 1;
        }
        if (chance == 2) {
            return pick(0, 1) == 0 ? Integer.MIN_VALUE : Integer.MAX_VALUE;
        }
        return pick(low, high);
    }

    private static int anySet(Model m) {
        return about(0, (1 << m.list.size()) - 1);
    }

    /** Few members, as a request with many seldom has a plan. */
    private static int smallSet(Model m) {
        if (pick(0, 7) == 0) {
            return anySet(m);
        }
        int set = 0;
        for (int times = pick(0, 2); times > 0 && !m.list.isEmpty(); times--) {
            set |= 1 << pick(0, m.list.size() - 1);
        }
        return set;
    }

    private static void oneRun(int run) {
        ProvisionAgent x = new ProvisionAgent();
        Model m = new Model();
        int most = pick(1, 12);
        // Half of the runs build nearly everything first, the others mix building with changing.
        int building = run % 2 == 0 ? 70 : 0;
        for (int call = 0; call < CALLS && CHECK.clean(); call++) {
            String where = "run " + run + ", call " + call + ": ";
            if (call < building || pick(0, 9) < 2) {
                build(where, x, m, most);
            } else if (pick(0, 9) < 4) {
                change(where, x, m);
            } else {
                ask(where, x, m);
            }
        }
    }

    private static void build(String where, ProvisionAgent x, Model m, int most) {
        int last = m.list.size() - 1;
        int what = pick(0, 9);
        if (what < 3) {
            int name = about(0, 4);
            int version = about(1, 9);
            int single = pick(0, 3) == 0 ? pick(-2, 2) : 0;
            if (m.list.size() < most || pick(0, 9) == 0) {
                due(where + "unit " + name + " " + version + " " + single,
                        x.unit(name, version, single), m.unit(name, version, single));
                return;
            }
        }
        if (what < 7) {
            int unit = about(0, Math.max(last, 0));
            int capability = about(0, 5);
            int version = about(1, 9);
            due(where + "offer " + unit + " " + capability + " " + version,
                    x.offer(unit, capability, version), m.offer(unit, capability, version));
            return;
        }
        int unit = about(0, Math.max(last, 0));
        int kind = about(0, 63);
        int low = about(1, 9);
        int high = pick(0, 3) == 0 ? about(1, 9) : Math.min(9, Math.max(low, 1) % 10 + pick(0, 8));
        due(where + "need " + unit + " " + kind + " " + low + " " + high,
                x.need(unit, kind, low, high), m.need(unit, kind, low, high));
    }

    private static void change(String where, ProvisionAgent x, Model m) {
        int wanted = smallSet(m);
        int barred = smallSet(m);
        switch (pick(0, 6)) {
            case 0 -> {
                int bits = about(0, 7);
                due(where + "environment " + bits, x.environment(bits), m.environment(bits));
            }
            case 1, 2 -> {
                int k = about(0, pick(0, 9));
                due(where + "fail " + wanted + " " + barred + " " + k,
                        x.fail(wanted, barred, k), m.fail(wanted, barred, k));
            }
            case 3 -> {
                int i = about(0, pick(0, 8));
                due(where + "revert " + i, x.revert(i), m.revert(i));
            }
            default -> due(where + "apply " + wanted + " " + barred, x.apply(wanted, barred), m.apply(wanted, barred));
        }
    }

    private static void ask(String where, ProvisionAgent x, Model m) {
        int set = anySet(m);
        int wanted = smallSet(m);
        int barred = smallSet(m);
        int unit = about(0, Math.max(m.list.size() - 1, 0));
        int i = about(0, 7);
        String request = wanted + " " + barred;
        switch (pick(0, 10)) {
            case 0 -> due(where + "units", x.units(), m.list.size());
            case 1 -> due(where + "profile", x.profile(), m.profile);
            case 2 -> due(where + "sound " + set, x.sound(set), m.sound(set));
            case 3 -> due(where + "cost " + set, x.cost(set), m.cost(set));
            case 4 -> due(where + "plan " + request, x.plan(wanted, barred), m.plan(wanted, barred));
            case 5 -> due(where + "planCost " + request, x.planCost(wanted, barred), m.planCost(wanted, barred));
            case 6 -> due(where + "excess " + request, x.excess(wanted, barred), m.excess(wanted, barred));
            case 7 -> due(where + "excess " + set + " " + wanted, x.excess(set, wanted), m.excess(set, wanted));
            case 8 -> due(where + "notes", x.notes(), m.history.size());
            case 9 -> due(where + "note " + i, x.note(i), m.note(i));
            default -> due(where + "touched " + unit, x.touched(unit), m.touched(unit));
        }
    }

    private static void due(String what, int got, int want) {
        CHECK.due(what, got, want);
    }

    private record Offer(int capability, int version) {
    }

    private record Need(int capability, int condition, boolean optional, int low, int high) {
    }

    private static final class Unit {
        final int name;
        final int version;
        final boolean single;
        final List<Offer> offers = new ArrayList<>();
        final List<Need> needs = new ArrayList<>();
        int touched;

        Unit(int name, int version, boolean single) {
            this.name = name;
            this.version = version;
            this.single = single;
        }
    }

    /** The document's words, told once more without regard to speed. */
    private static final class Model {
        final List<Unit> list = new ArrayList<>();
        final List<Integer> history = new ArrayList<>();
        int profile;
        int bits;

        int unit(int name, int version, int single) {
            if (name < 0 || name > 4) {
                return -1;
            }
            if (version < 1 || version > 9) {
                return -2;
            }
            if (list.stream().anyMatch(u -> u.name == name && u.version == version)) {
                return -3;
            }
            if (list.size() == 10) {
                return -4;
            }
            list.add(new Unit(name, version, single != 0));
            return list.size() - 1;
        }

        int offer(int unit, int capability, int version) {
            if (!goodUnit(unit)) {
                return -1;
            }
            if (capability < 0 || capability > 5) {
                return -2;
            }
            if (version < 1 || version > 9) {
                return -3;
            }
            List<Offer> offers = list.get(unit).offers;
            if (offers.size() == 3) {
                return -4;
            }
            offers.add(new Offer(capability, version));
            return offers.size();
        }

        int need(int unit, int kind, int low, int high) {
            if (!goodUnit(unit)) {
                return -1;
            }
            if (kind < 0 || kind > 63 || kind % 8 == 6 || kind % 8 == 7) {
                return -2;
            }
            if (!(1 <= low && low <= high && high <= 9)) {
                return -3;
            }
            List<Need> needs = list.get(unit).needs;
            if (needs.size() == 3) {
                return -4;
            }
            needs.add(new Need(kind % 8, kind / 8 % 4, kind / 32 == 1, low, high));
            return needs.size();
        }

        int environment(int next) {
            if (next < 0 || next > 7) {
                return -1;
            }
            int before = bits;
            bits = next;
            return before;
        }

        boolean goodUnit(int unit) {
            return unit >= 0 && unit < list.size();
        }

        boolean goodSet(int set) {
            return set >= 0 && set <= (1 << list.size()) - 1;
        }

        List<Unit> members(int set) {
            List<Unit> found = new ArrayList<>();
            for (int u = 0; u < list.size(); u++) {
                if ((set / (1 << u)) % 2 == 1) {
                    found.add(list.get(u));
                }
            }
            return found;
        }

        boolean applies(Need need) {
            int[] bit = {1, bits % 2, bits / 2 % 2, bits / 4};
            return bit[need.condition] == 1;
        }

        boolean meets(List<Unit> members, Need need) {
            for (Unit unit : members) {
                for (Offer offer : unit.offers) {
                    boolean within = need.low <= offer.version && offer.version <= need.high;
                    if (within && offer.capability == need.capability) {
                        return true;
                    }
                }
            }
            return false;
        }

        int unmet(List<Unit> members, boolean optional) {
            int count = 0;
            for (Unit unit : members) {
                for (Need need : unit.needs) {
                    if (need.optional == optional && applies(need) && !meets(members, need)) {
                        count++;
                    }
                }
            }
            return count;
        }

        int sound(int set) {
            if (!goodSet(set)) {
                return -1;
            }
            List<Unit> members = members(set);
            for (Unit one : members) {
                for (Unit other : members) {
                    if (one != other && one.name == other.name && one.single) {
                        return 0;
                    }
                }
            }
            return unmet(members, false) == 0 ? 1 : 0;
        }

        int cost(int set) {
            if (!goodSet(set)) {
                return -1;
            }
            List<Unit> members = members(set);
            List<Unit> held = members(profile);
            int sum = 2 * unmet(members, true);
            for (Unit unit : members) {
                sum += held.contains(unit) ? 0 : 5;
                sum += list.stream().filter(u -> u.name == unit.name).mapToInt(u -> u.version).max().getAsInt();
                sum -= unit.version;
            }
            for (Unit unit : held) {
                sum += members.contains(unit) ? 0 : 3;
            }
            return sum;
        }

        /** From the greatest set down, so that an equally cheap one of less number takes the place. */
        int plan(int wanted, int barred) {
            if (!goodSet(wanted) || !goodSet(barred)) {
                return -1;
            }
            int best = -2;
            int least = Integer.MAX_VALUE;
            for (int set = (1 << list.size()) - 1; set >= 0; set--) {
                if ((set | wanted) == set && (set & barred) == 0 && sound(set) == 1) {
                    int price = cost(set);
                    if (price <= least) {
                        least = price;
                        best = set;
                    }
                }
            }
            return best;
        }

        int planCost(int wanted, int barred) {
            int best = plan(wanted, barred);
            return best < 0 ? best : cost(best);
        }

        /** Looks at each sound set once: what it breaks of the request is what would be given up for it. */
        int excess(int wanted, int barred) {
            if (!goodSet(wanted) || !goodSet(barred)) {
                return -1;
            }
            int least = Integer.MAX_VALUE;
            for (int set = 0; set < 1 << list.size(); set++) {
                if (sound(set) == 1) {
                    least = Math.min(least, Integer.bitCount(wanted & ~set) + Integer.bitCount(barred & set));
                }
            }
            return least;
        }

        List<Integer> steps(int set) {
            List<Integer> steps = new ArrayList<>();
            for (int u = list.size() - 1; u >= 0; u--) {
                if ((profile & 1 << u) != 0 && (set & 1 << u) == 0) {
                    steps.add(u);
                }
            }
            for (int u = 0; u < list.size(); u++) {
                if ((profile & 1 << u) == 0 && (set & 1 << u) != 0) {
                    steps.add(u);
                }
            }
            return steps;
        }

        int changeTo(int set) {
            List<Integer> steps = steps(set);
            for (int u : steps) {
                list.get(u).touched++;
            }
            profile = set;
            history.add(set);
            if (history.size() > 8) {
                history.remove(0);
            }
            return steps.size();
        }

        int apply(int wanted, int barred) {
            int best = plan(wanted, barred);
            return best < 0 ? best : changeTo(best);
        }

        int fail(int wanted, int barred, int k) {
            int best = plan(wanted, barred);
            if (best < 0) {
                return best;
            }
            List<Integer> steps = steps(best);
            if (k < 0 || k >= steps.size()) {
                return -3;
            }
            for (int u : steps.subList(0, k)) {
                list.get(u).touched += 2;
            }
            return 2 * k;
        }

        int note(int i) {
            return i < 0 || i >= history.size() ? -1 : history.get(i);
        }

        int revert(int i) {
            return note(i) == -1 ? -1 : changeTo(note(i));
        }

        int touched(int unit) {
            return goodUnit(unit) ? list.get(unit).touched : -1;
        }
    }
}
