/** Keeps units with versioned requirements, plans sets of them, and changes the profile to such sets. */
public final class ProvisionAgent {
    private static final int MOST_UNITS = 10;
    private static final int NAMES = 5;
    private static final int LAST_VERSION = 9;
    private static final int CAPABILITIES = 6;
    private static final int MOST_OFFERS = 3;
    private static final int MOST_NEEDS = 3;
    private static final int MOST_NOTES = 8;
    private static final int LAST_ENVIRONMENT = 7;
    private static final int LAST_KIND = 63;

    private static final int NEED_PLACES = MOST_UNITS * MOST_NEEDS;
    private static final int VERSIONS = LAST_VERSION + 1;
    private static final int OFFER_PLACES = CAPABILITIES * VERSIONS;

    private static final int COST_PUT_IN = 5;
    private static final int COST_TAKEN_OUT = 3;
    private static final int COST_UNMET_OPTION = 2;

    private static final int NO_PLAN = -2;

    private int unitCount;
    private final int[] unitName = new int[MOST_UNITS];
    private final int[] unitVersion = new int[MOST_UNITS];
    private final boolean[] unitSingle = new boolean[MOST_UNITS];
    private final int[] touchCount = new int[MOST_UNITS];
    private final int[] newestVersion = new int[NAMES];

    private final int[] offerCount = new int[MOST_UNITS];
    // Held as sets of units by capability and version: soundness asks only who offers, never what one unit offers.
    private final int[] offering = new int[OFFER_PLACES];

    private final int[] needCount = new int[MOST_UNITS];
    private final int[] needCapability = new int[NEED_PLACES];
    private final int[] needLow = new int[NEED_PLACES];
    private final int[] needHigh = new int[NEED_PLACES];
    private final int[] needCondition = new int[NEED_PLACES];
    private final boolean[] needOptional = new boolean[NEED_PLACES];

    private int environmentBits;
    private int installed;
    private int noteCount;
    private final int[] noted = new int[MOST_NOTES];

    public ProvisionAgent() {
    }

    public int unit(int name, int version, int single) {
        if (name < 0 || name >= NAMES) {
            return -1;
        }
        if (version < 1 || version > LAST_VERSION) {
            return -2;
        }
        if (isListed(name, version)) {
            return -3;
        }
        if (unitCount >= MOST_UNITS) {
            return -4;
        }
        int number = unitCount;
        unitName[number] = name;
        unitVersion[number] = version;
        unitSingle[number] = single != 0;
        if (version > newestVersion[name]) {
            newestVersion[name] = version;
        }
        unitCount++;
        return number;
    }

    public int offer(int unit, int capability, int version) {
        if (!isGoodUnit(unit)) {
            return -1;
        }
        if (capability < 0 || capability >= CAPABILITIES) {
            return -2;
        }
        if (version < 1 || version > LAST_VERSION) {
            return -3;
        }
        if (offerCount[unit] >= MOST_OFFERS) {
            return -4;
        }
        offering[capability * VERSIONS + version] |= 1 << unit;
        offerCount[unit]++;
        return offerCount[unit];
    }

    public int need(int unit, int kind, int low, int high) {
        if (!isGoodUnit(unit)) {
            return -1;
        }
        if (kind < 0 || kind > LAST_KIND || (kind & 7) >= CAPABILITIES) {
            return -2;
        }
        if (low < 1 || low > high || high > LAST_VERSION) {
            return -3;
        }
        if (needCount[unit] >= MOST_NEEDS) {
            return -4;
        }
        int place = unit * MOST_NEEDS + needCount[unit];
        needCapability[place] = kind & 7;
        needCondition[place] = (kind >> 3) & 3;
        needOptional[place] = (kind >> 5) == 1;
        needLow[place] = low;
        needHigh[place] = high;
        needCount[unit]++;
        return needCount[unit];
    }

    public int environment(int bits) {
        if (bits < 0 || bits > LAST_ENVIRONMENT) {
            return -1;
        }
        int before = environmentBits;
        environmentBits = bits;
        return before;
    }

    public int units() {
        return unitCount;
    }

    public int profile() {
        return installed;
    }

    public int sound(int set) {
        if (!isGoodSet(set)) {
            return -1;
        }
        return isSound(set) ? 1 : 0;
    }

    public int cost(int set) {
        if (!isGoodSet(set)) {
            return -1;
        }
        return costOf(set);
    }

    public int plan(int wanted, int barred) {
        if (!isGoodSet(wanted) || !isGoodSet(barred)) {
            return -1;
        }
        return bestSet(wanted, barred);
    }

    public int planCost(int wanted, int barred) {
        if (!isGoodSet(wanted) || !isGoodSet(barred)) {
            return -1;
        }
        int best = bestSet(wanted, barred);
        return best == NO_PLAN ? NO_PLAN : costOf(best);
    }

    public int excess(int wanted, int barred) {
        if (!isGoodSet(wanted) || !isGoodSet(barred)) {
            return -1;
        }
        // The empty set is sound, so giving up every wanted unit always suffices.
        int least = sizeOf(wanted);
        int end = 1 << unitCount;
        for (int set = 1; set < end; set++) {
            int givenUp = sizeOf(wanted & ~set) + sizeOf(barred & set);
            if (givenUp < least && isSound(set)) {
                least = givenUp;
            }
        }
        return least;
    }

    public int apply(int wanted, int barred) {
        if (!isGoodSet(wanted) || !isGoodSet(barred)) {
            return -1;
        }
        int best = bestSet(wanted, barred);
        return best == NO_PLAN ? NO_PLAN : changeTo(best);
    }

    public int fail(int wanted, int barred, int k) {
        if (!isGoodSet(wanted) || !isGoodSet(barred)) {
            return -1;
        }
        int best = bestSet(wanted, barred);
        if (best == NO_PLAN) {
            return NO_PLAN;
        }
        if (k < 0 || k >= sizeOf(installed ^ best)) {
            return -3;
        }
        // Once for the step, once more for undoing it; the order of the undoing shows nowhere.
        touchSteps(best, k, 2);
        return 2 * k;
    }

    public int revert(int i) {
        if (!isNote(i)) {
            return -1;
        }
        return changeTo(noted[i]);
    }

    public int notes() {
        return noteCount;
    }

    public int note(int i) {
        if (!isNote(i)) {
            return -1;
        }
        return noted[i];
    }

    public int touched(int unit) {
        if (!isGoodUnit(unit)) {
            return -1;
        }
        return touchCount[unit];
    }

    private boolean isGoodUnit(int unit) {
        return unit >= 0 && unit < unitCount;
    }

    private boolean isGoodSet(int set) {
        return set >= 0 && set < (1 << unitCount);
    }

    private boolean isNote(int i) {
        return i >= 0 && i < noteCount;
    }

    private boolean isListed(int name, int version) {
        for (int unit = 0; unit < unitCount; unit++) {
            if (unitName[unit] == name && unitVersion[unit] == version) {
                return true;
            }
        }
        return false;
    }

    private static boolean holds(int set, int unit) {
        return ((set >> unit) & 1) == 1;
    }

    private static int sizeOf(int set) {
        int size = 0;
        for (int unit = 0; unit < MOST_UNITS; unit++) {
            size += (set >> unit) & 1;
        }
        return size;
    }

    private boolean isSound(int set) {
        for (int unit = 0; unit < unitCount; unit++) {
            if (holds(set, unit)) {
                if (hasRival(set, unit) || countUnmet(set, unit, false) > 0) {
                    return false;
                }
            }
        }
        return true;
    }

    /** Looks only at later members, since every pair is seen from its earlier one. */
    private boolean hasRival(int set, int unit) {
        for (int other = unit + 1; other < unitCount; other++) {
            if (holds(set, other) && unitName[other] == unitName[unit] && (unitSingle[other] || unitSingle[unit])) {
                return true;
            }
        }
        return false;
    }

    private int countUnmet(int set, int unit, boolean optional) {
        int unmet = 0;
        for (int i = 0; i < needCount[unit]; i++) {
            int place = unit * MOST_NEEDS + i;
            if (needOptional[place] == optional && applies(place) && !isMet(set, place)) {
                unmet++;
            }
        }
        return unmet;
    }

    private boolean applies(int place) {
        int condition = needCondition[place];
        return condition == 0 || ((environmentBits >> (condition - 1)) & 1) == 1;
    }

    private boolean isMet(int set, int place) {
        int row = needCapability[place] * VERSIONS;
        for (int version = needLow[place]; version <= needHigh[place]; version++) {
            if ((offering[row + version] & set) != 0) {
                return true;
            }
        }
        return false;
    }

    private int costOf(int set) {
        int cost = COST_PUT_IN * sizeOf(set & ~installed) + COST_TAKEN_OUT * sizeOf(installed & ~set);
        for (int unit = 0; unit < unitCount; unit++) {
            if (holds(set, unit)) {
                cost += COST_UNMET_OPTION * countUnmet(set, unit, true);
                cost += newestVersion[unitName[unit]] - unitVersion[unit];
            }
        }
        return cost;
    }

    /** Goes through the sets in rising order, so that of equally cheap ones the least number stays. */
    private int bestSet(int wanted, int barred) {
        int best = NO_PLAN;
        int bestCost = 0;
        int end = 1 << unitCount;
        for (int set = 0; set < end; set++) {
            boolean asked = (set & wanted) == wanted && (set & barred) == 0;
            if (asked && isSound(set)) {
                int cost = costOf(set);
                if (best == NO_PLAN || cost < bestCost) {
                    best = set;
                    bestCost = cost;
                }
            }
        }
        return best;
    }

    private int changeTo(int set) {
        int steps = sizeOf(installed ^ set);
        touchSteps(set, steps, 1);
        installed = set;
        addNote(set);
        return steps;
    }

    /** Touches, so many times each, the units of the first steps of a change to the set. */
    private void touchSteps(int set, int steps, int times) {
        int left = steps;
        for (int unit = MOST_UNITS - 1; unit >= 0 && left > 0; unit--) {
            if (holds(installed & ~set, unit)) {
                touchCount[unit] += times;
                left--;
            }
        }
        for (int unit = 0; unit < MOST_UNITS && left > 0; unit++) {
            if (holds(set & ~installed, unit)) {
                touchCount[unit] += times;
                left--;
            }
        }
    }

    private void addNote(int set) {
        if (noteCount >= MOST_NOTES) {
            dropFirstNote();
        }
        noted[noteCount] = set;
        noteCount++;
    }

    private void dropFirstNote() {
        for (int i = 1; i < noteCount; i++) {
            noted[i - 1] = noted[i];
        }
        noteCount--;
    }
}
