/** Agents made ready for a test, and arguments beyond every range of the document. */
final class Agents {
    static final int[] FAR = {
        Integer.MIN_VALUE, Integer.MIN_VALUE + 1, -1024, -64, -32, -8, -1, 1 << 11, 1 << 16, 1 << 30, Integer.MAX_VALUE
    };

    private Agents() {
    }

    /** Units that are not single; after the fifth the names come again, with version 2. */
    static ProvisionAgent plain(int count) {
        ProvisionAgent x = new ProvisionAgent();
        for (int u = 0; u < count; u++) {
            x.unit(u % 5, 1 + u / 5, 0);
        }
        return x;
    }

    /** Five units of different names and equal versions: every set is sound, and no version counts. */
    static ProvisionAgent five() {
        return plain(5);
    }

    /** Of the plain units, exactly these become the profile. */
    static int become(ProvisionAgent x, int set) {
        return x.apply(set, (1 << x.units()) - 1 - set);
    }
}
