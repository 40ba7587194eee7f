import java.util.ArrayList;
import java.util.List;

/** Two agents made alike: what one of them is asked in between shows in how the two go on. */
final class Twins {
    /** BUSY has 6 units, FULL has 10; unit 0 of either has 3 offers, unit 5 has 3 needs, and 8 notes are kept. */
    enum Kind { BUSY, FULL }

    interface Call {
        int on(ProvisionAgent x);
    }

    private Twins() {
    }

    static ProvisionAgent made(Kind kind) {
        ProvisionAgent x = new ProvisionAgent();
        x.unit(0, 1, 0);
        x.unit(0, 3, 1);
        x.unit(1, 2, 0);
        x.unit(1, 5, 0);
        x.unit(2, 4, 0);
        x.unit(3, 1, 0);
        offersAndNeeds(x);
        if (kind == Kind.FULL) {
            for (int version = 1; version <= 4; version++) {
                x.unit(4, version, version % 2);
            }
        }
        x.environment(2);
        for (int i = 0; i < 4; i++) {
            x.apply(1 << i, 0);
            x.apply(4, 1 << i & ~4);
        }
        x.apply(32, 2);
        return x;
    }

    private static void offersAndNeeds(ProvisionAgent x) {
        x.offer(0, 0, 1);
        x.offer(0, 1, 5);
        x.offer(0, 2, 9);
        x.offer(2, 3, 4);
        x.offer(3, 3, 5);
        x.offer(4, 4, 2);
        x.offer(4, 0, 1);
        x.need(5, 3, 4, 5);
        x.need(5, 32 + 16 + 4, 1, 9);
        x.need(5, 8, 1, 1);
        x.need(4, 32, 2, 9);
    }

    static String firstDifference(ProvisionAgent with, ProvisionAgent without) {
        List<String> got = everything(with);
        List<String> want = everything(without);
        for (int i = 0; i < want.size(); i++) {
            if (i >= got.size() || !got.get(i).equals(want.get(i))) {
                return (i < got.size() ? got.get(i) : "the end") + " instead of " + want.get(i);
            }
        }
        return "no difference";
    }

    /**
     * Some 350 calls, so that an agent stays within the 512 that it may be used for. Those that are refused come last:
     * if one of them changed what is seen after it, it would do so to both twins alike and hide their difference.
     */
    private static List<String> everything(ProvisionAgent x) {
        List<String> seen = new ArrayList<>();
        int n = x.units();
        seen.add("units() = " + n);
        seen.add("profile() = " + x.profile());
        int notes = x.notes();
        seen.add("notes() = " + notes);
        for (int i = 0; i < notes; i++) {
            seen.add("note(" + i + ") = " + x.note(i));
        }
        for (int u = 0; u < n; u++) {
            seen.add("touched(" + u + ") = " + x.touched(u));
        }
        seeSets(x, n, seen);
        // What no question shows is seen by going on.
        seen.add("environment(5) = " + x.environment(5));
        seeSets(x, n, seen);
        for (int u = n - 1; u > 0; u--) {
            seen.add("offer(" + u + ", 5, 9) = " + x.offer(u, 5, 9));
        }
        for (int u = 0; u < n; u++) {
            if (u != 5) {
                seen.add("need(" + u + ", 37, 1, 1) = " + x.need(u, 37, 1, 1));
            }
        }
        seen.add("offer(0, 5, 9) = " + x.offer(0, 5, 9));
        seen.add("need(5, 37, 1, 1) = " + x.need(5, 37, 1, 1));
        seen.add("unit(4, 9, 0) = " + x.unit(4, 9, 0));
        return seen;
    }

    private static void seeSets(ProvisionAgent x, int n, List<String> seen) {
        // Of ten units' sets only some are looked at, to stay within the 512 calls.
        int stride = n <= 6 ? 1 : 17;
        for (int set = 0; set < 1 << n; set += stride) {
            seen.add("sound(" + set + ") = " + x.sound(set));
            seen.add("cost(" + set + ") = " + x.cost(set));
        }
    }
}
