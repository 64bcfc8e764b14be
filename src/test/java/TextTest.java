/** Texts of houses and what reading them answers; {text, answer} by the document's own words. */
public final class TextTest {
    private static final Check CHECK = new Check();
    private static final String SIX = "doing 0 0;doing 1 1;doing 2 2;doing 3 3;doing 4 4;doing 5 5;";

    private static final Object[][] TEXTS = {
        {"house 0;", 1},
        {"house 9;", 1},
        {"house 09;", 1},
        {"  house   3  ;  ", 1},
        {"house3;", 1},
        {"house 0;war;war;", 3},
        {"house 0;rate 0 9;rate 1 0;rate 0 1;", 4},
        {"house 0;bar 0;", 2},
        {"house 0;bar 1 0 23 0 00;", 2},
        {"house 0;bar 0 0 1 2 3 4 5 6 7 8 9 10 11 12 13 14 15 16 17 18 19 20 21 22 23;", 2},
        {"house 0;doing 5 20;", 2},
        {"house 1;" + SIX, 7},
        // it ends too early
        {"", -10},
        {"   ", -13},
        {"house", -15},
        {"house ", -16},
        {"house 1", -17},
        {"house 1;war", -21},
        {"house 1;rate 0", -24},
        {"house 1;rate 0 1 ", -27},
        {"house 1;bar", -21},
        {"house 1;bar 0", -23},
        {"house 1;bar 0 5 ", -26},
        {"house 1;doing", -23},
        {"house 1;doing 2", -25},
        {"house 1;doing 2 2", -27},
        // words
        {"hous", -10},
        {"houses 1;", -10},
        {"housee", -10},
        {"rate 0 1;house 1;", -10},
        {"war;", -10},
        {" ;house 1;", -11},
        {"7;", -10},
        {"house 1;house 1;", -18},
        {"house 1;war;house 1;", -22},
        {"house 1;wars;", -18},
        {"house 1;wa r;", -18},
        {"house 1; peace;", -19},
        {"house house 1;", -16},
        {"house 1;rate rate;", -23},
        {"house 1;warwar;", -18},
        {"house 1;warz;", -18},
        {"house 1;awar;", -18},
        {"house 1;z", -18},
        // stops
        {"house;", -15},
        {"house 1;;", -18},
        {"house 1 war;", -18},
        {"house 1 2;", -18},
        {"house 1;war 1;", -22},
        {"house 1;rate 0;", -24},
        {"house 1;rate 0 1 1;", -27},
        {"house 1;bar;", -21},
        {"house 1;bar 0 war;", -24},
        {"house 1;doing 0;", -25},
        {"house 1;doing 0 0 0;", -28},
        // numbers
        {"house 10;", -16},
        {"house 99;", -16},
        {"house 001;", -16},
        {"house 1;rate 2 0;", -23},
        {"house 1;rate 0 10;", -25},
        {"house 1;bar 2;", -22},
        {"house 1;bar 0 24;", -24},
        {"house 1;bar 0 1 023;", -26},
        {"house 1;bar 0 2147483648000 1;", -24},
        {"house 1;doing 6 0;", -24},
        {"house 1;doing 5 21;", -26},
        {"house 1;doing 00 000;", -27},
        {"house 1; 12", -19},
        // bytes that begin no token
        {"house -1;", -16},
        {"House 1;", -10},
        {"house\t1;", -15},
        {"house 1;\n", -18},
        {"house 1;WAR;", -18},
        {"house 1.;", -17},
        {"house 1;w_r;", -18},
        {"house 1;war_;", -21},
        {"house 1;`", -18},
        {"house 1;{", -18},
        {"house 1/;", -17},
        {"house 1:;", -17},
        {"\u0000", -10},
        {"house 1;\u007f", -18},
        // a seventh doing
        {"house 1;" + SIX + "doing 0 0;", -78},
        {"house 1;" + SIX + " doing x", -79},
        {"house 1;" + SIX + "war;", 8},
    };

    public static void main(String[] args) {
        for (Object[] row : TEXTS) {
            reading((String) row[0], (Integer) row[1]);
        }
        longestText();
        olderText();
        everyPartOfAText();
        CHECK.finish();
    }

    private static void reading(String text, int want) {
        BedFrontier x = new BedFrontier();
        x.house(8);
        x.doing(3, 3);
        x.waits(3);
        Check.typeAll(x, text);
        long before = x.digest();
        CHECK.due("'" + text + "'", x.read(), want);
        if (want < 0) {
            CHECK.due("'" + text + "': all stays", x.digest(), before);
        } else {
            CHECK.due("'" + text + "': hour", x.now(1), 0);
        }
        CHECK.due("'" + text + "': the text stays", x.count(6), text.length());
        CHECK.due("'" + text + "': status", x.status(0) + x.status(1) + x.status(2), 0);
    }

    private static void longestText() {
        StringBuilder text = new StringBuilder("house 1;");
        while (text.length() < 148) {
            text.append("war;");
        }
        text.append("  ");
        reading(text.toString(), 36);
        String most = text.substring(0, 144);
        reading(most + "  bar ", -160);
        reading(most + "   war", -160);
        reading(most + " bar 1", -160);
        reading(most + "bar 12", -158);
        BedFrontier x = new BedFrontier();
        Check.typeAll(x, most + "   war");
        CHECK.due("the 151st", x.type(';'), BedFrontier.FULL);
        CHECK.due("it ends at 150", x.read(), -160);
    }

    /** Bytes of an older text lie behind the one that is read, and must not be seen. */
    private static void olderText() {
        String[][] pairs = {{"house 12345;", "house 1"}, {"house 1;warwar;", "house 1;war"},
            {"house 1;bar 0 11;", "house 1;bar 0 1"}, {"house 5;", "house"}};
        for (String[] pair : pairs) {
            BedFrontier x = new BedFrontier();
            Check.typeAll(x, pair[0]);
            Check.typeAll(x, pair[1]);
            CHECK.due("'" + pair[1] + "' over '" + pair[0] + "'", x.read(), -10 - pair[1].length());
        }
    }

    /** Each text that begins a good one ends too early, but where an item has just ended. */
    private static void everyPartOfAText() {
        String text = "house 2;rate 0 3;bar 0 0 1 22;bar 1;war;doing 5 20;";
        int items = 0;
        for (int n = 1; n <= text.length(); n++) {
            String part = text.substring(0, n);
            if (part.endsWith(";")) {
                items++;
                reading(part, items);
            } else if (!endsInsideWord(text, n)) {
                reading(part, -10 - n);
            } else {
                reading(part, -10 - startOfWord(text, n));
            }
        }
    }

    private static boolean endsInsideWord(String text, int n) {
        return Character.isLetter(text.charAt(n - 1)) && Character.isLetter(text.charAt(n));
    }

    private static int startOfWord(String text, int n) {
        int at = n;
        while (at > 0 && Character.isLetter(text.charAt(at - 1))) {
            at--;
        }
        return at;
    }
}
