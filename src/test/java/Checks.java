/** Counts and prints the answers that are not the ones due. */
final class Checks {
    private int asked;
    private int wrong;

    void due(String call, long got, long want) {
        asked++;
        if (got != want) {
            wrong++;
            System.out.println(call + " answered " + got + ", due is " + want);
        }
    }

    void holds(String what, boolean isSo) {
        due(what, isSo ? 1 : 0, 1);
    }

    boolean isWrong() {
        return wrong > 0;
    }

    void end() {
        System.out.println(asked + " answers asked, " + wrong + " not as due");
        if (asked == 0 || wrong > 0) {
            System.exit(1);
        }
    }
}
