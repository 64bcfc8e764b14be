/** Collects answers that are not the ones due; a test ends with finish(). */
final class Check {
    private static final int MOST_PRINTED = 40;

    private int asked;
    private int wrong;

    void due(String what, long got, long want) {
        asked++;
        if (got != want) {
            fail(what + " answered " + got + ", due is " + want);
        }
    }

    void fail(String what) {
        wrong++;
        if (wrong <= MOST_PRINTED) {
            System.out.println(what);
        }
    }

    int asked() {
        return asked;
    }

    boolean isClean() {
        return wrong == 0;
    }

    void finish() {
        System.out.println(asked + " answers looked at, " + wrong + " not as due");
        if (wrong != 0 || asked == 0) {
            System.exit(1);
        }
    }

    static int typeAll(BedFrontier x, String text) {
        x.clear();
        for (int i = 0; i < text.length(); i++) {
            x.type(text.charAt(i));
        }
        return text.length();
    }
}
