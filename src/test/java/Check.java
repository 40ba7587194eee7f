/** Counts and prints the answers that are not the ones due. */
final class Check {
    private int wrong;
    private int asked;

    void due(String what, int got, int want) {
        asked++;
        if (got != want) {
            wrong++;
            System.out.println(what + " answered " + got + ", due is " + want);
        }
    }

    boolean clean() {
        return wrong == 0;
    }

    void end() {
        if (wrong != 0 || asked == 0) {
            System.out.println(wrong + " of " + asked + " answers are not as due");
            System.exit(1);
        }
        System.out.println("all " + asked + " answers are as due");
    }
}
