/** Counts the answers that are not the due ones and prints each. */
final class Due {
    private int wrong;
    private int asked;
    private String part = "";

    void part(String name) {
        part = name;
    }

    void due(String call, long got, long want) {
        asked++;
        if (got != want) {
            wrong++;
            System.out.println(part + ": " + call + " answered " + got + ", due is " + want);
        }
    }

    void holds(String claim, boolean isSo) {
        due(claim, isSo ? 1 : 0, 1);
    }

    boolean anyWrong() {
        return wrong > 0;
    }

    void close() {
        System.out.println(asked + " answers looked at, " + wrong + " not as due");
        if (wrong > 0) {
            System.exit(1);
        }
    }
}
