/** Counts and prints the answers that are not the ones due. */
final class Check {
    private int wrong;
    private int asked;
    private String sentence = "";

    /** Makes the test of a sentence of the document; its words are printed with every wrong answer. */
    void sentence(String words, Runnable test) {
        sentence = "[" + words + "] ";
        int before = asked;
        try {
            test.run();
        } catch (RuntimeException thrown) {
            same("no call may throw", thrown.toString(), "nothing thrown");
        }
        if (asked == before) {
            same("the test", "asked nothing", "asked something");
        }
        sentence = "";
    }

    void due(String what, int got, int want) {
        same(what, "answered " + got, "answered " + want);
    }

    void same(String what, String got, String want) {
        asked++;
        if (!got.equals(want)) {
            wrong++;
            System.out.println(sentence + what + ": " + got + ", due is: " + want);
        }
    }

    /** The call answers as due, and an agent that got it goes on exactly as one that did not. */
    void changesNothing(String what, Twins.Kind kind, int want, Twins.Call call) {
        ProvisionAgent with = Twins.made(kind);
        due(what, call.on(with), want);
        same(what + ", and then", Twins.firstDifference(with, Twins.made(kind)), "no difference");
    }

    boolean clean() {
        return wrong == 0;
    }

    void end() {
        if (wrong != 0 || asked == 0) {
            System.out.println(wrong + " of " + asked + " answers are not as due");
            System.exit(1);
        }
        System.out.println("all " + asked + " answers are as due");
    }
}
