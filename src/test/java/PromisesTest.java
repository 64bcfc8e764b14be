/** One method a promise, with answers worked out from the document by hand. */
public final class PromisesTest {
    private static final int NONE = BedFrontier.NONE;
    private static final int BAD = BedFrontier.BAD;
    private static final int NO = BedFrontier.NO;
    private static final int FULL = BedFrontier.FULL;
    private static final int LOW = Integer.MIN_VALUE;
    private static final int HIGH = Integer.MAX_VALUE;
    private static final int ALL = 16777215;

    private static final Check CHECK = new Check();

    public static void main(String[] args) {
        newObject();
        house();
        rate();
        bar();
        doing();
        type();
        clear();
        read();
        does();
        waits();
        war();
        undo();
        of();
        now();
        due();
        dueOfEachKind();
        both();
        least();
        leastFirstWay();
        before();
        child();
        where();
        bars();
        note();
        forget();
        is();
        look();
        wars();
        sentry();
        days();
        part();
        image();
        from();
        status();
        count();
        digest();
        CHECK.finish();
    }

    private static void eq(String what, long got, long want) {
        CHECK.due(what, got, want);
    }

    private static void refusals(String what, BedFrontier x, int bad, int no, int full) {
        eq(what + ": status BAD", x.status(0), bad);
        eq(what + ": status NO", x.status(1), no);
        eq(what + ": status FULL", x.status(2), full);
    }

    /** A house with one doing of each kind, of worth 10, toll 3, rates 2 and 4. */
    private static BedFrontier full() {
        BedFrontier x = new BedFrontier();
        x.house(3);
        x.rate(0, 2);
        x.rate(1, 4);
        for (int kind = 0; kind < 6; kind++) {
            x.doing(kind, 10);
        }
        return x;
    }

    private static void newObject() {
        BedFrontier x = new BedFrontier();
        for (int what = 0; what <= 6; what++) {
            eq("1 count " + what, x.count(what), 0);
        }
        for (int what = 0; what <= 3; what++) {
            eq("1 now " + what, x.now(what), 0);
        }
        eq("1 fraction above", x.part(0), 0);
        eq("1 fraction below", x.part(1), 1);
        eq("1 least of nothing", x.least(NONE), 0);
        refusals("1", x, 0, 0, 0);
        eq("1 his rate", x.rate(0, 1), 1);
        eq("1 her rate", x.rate(1, 1), 1);
        eq("1 his bars", x.bar(0, 0), 0);
        eq("1 her bars", x.bar(1, 0), 0);
        x.doing(1, 0);
        eq("1 toll", x.does(0, 1), 1);
        BedFrontier y = new BedFrontier();
        eq("1 no image", y.from(0), NO);
        eq("1 no image", y.from(1), NO);
    }

    private static void house() {
        BedFrontier x = full();
        x.bar(0, 7);
        x.bar(1, 9);
        x.does(4, 1);
        x.war(1);
        x.note(0, 0, 0, 0, 1);
        x.child(4);
        x.image(0);
        x.type(65);
        long before = x.digest();
        eq("2 toll too high", x.house(10), BAD);
        eq("2 toll below 0", x.house(-1), BAD);
        eq("2 toll far", x.house(LOW), BAD);
        eq("2 refused changes nothing", x.digest(), before);
        eq("2 how many there were", x.house(9), 6);
        eq("2 again", x.house(0), 0);
        eq("2 highest", x.house(9), 0);
        for (int what = 0; what <= 5; what++) {
            eq("2 count " + what, x.count(what), 0);
        }
        eq("2 the text stays", x.count(6), 1);
        eq("2 no war", x.now(3), 0);
        eq("2 the fraction stays", x.part(0), 2);
        eq("2 nothing to undo", x.undo(), NO);
        eq("2 his rate", x.rate(0, 0), 1);
        eq("2 her rate", x.rate(1, 0), 1);
        eq("2 his bars", x.bar(0, 0), 0);
        eq("2 her bars", x.bar(1, 0), 0);
        refusals("2", x, 3, 1, 0);
        x.doing(1, 0);
        eq("2 toll", x.does(0, 1), 9);
        eq("2 images stay", x.from(0), 1);
        eq("2 from the image", x.count(0), 6);
    }

    private static void rate() {
        BedFrontier x = new BedFrontier();
        eq("3 his", x.rate(0, 9), 1);
        eq("3 hers", x.rate(1, 0), 1);
        eq("3 his was", x.rate(0, 5), 9);
        eq("3 hers was", x.rate(1, 5), 0);
        int[][] wrong = {{2, 0}, {-1, 0}, {0, 10}, {1, -1}, {HIGH, 3}, {0, LOW}};
        for (int[] w : wrong) {
            eq("3 wrong", x.rate(w[0], w[1]), BAD);
        }
        eq("3 refused changes nothing", x.rate(0, 1), 5);
        eq("3 refused changes nothing", x.rate(1, 1), 5);
        refusals("3", x, wrong.length, 0, 0);
    }

    private static void bar() {
        BedFrontier x = new BedFrontier();
        eq("4 his", x.bar(0, ALL), 0);
        eq("4 hers", x.bar(1, 1), 0);
        eq("4 his was", x.bar(0, 0), ALL);
        eq("4 hers was", x.bar(1, 2), 1);
        int[][] wrong = {{2, 0}, {-1, 0}, {0, ALL + 1}, {1, -1}, {LOW, 0}, {0, HIGH}};
        for (int[] w : wrong) {
            eq("4 wrong", x.bar(w[0], w[1]), BAD);
        }
        eq("4 refused changes nothing", x.bar(0, 0), 0);
        eq("4 refused changes nothing", x.bar(1, 0), 2);
        refusals("4", x, wrong.length, 0, 0);
    }

    private static void doing() {
        BedFrontier x = new BedFrontier();
        int[][] wrong = {{6, 0}, {-1, 0}, {0, 21}, {0, -1}, {HIGH, HIGH}};
        for (int[] w : wrong) {
            eq("5 wrong", x.doing(w[0], w[1]), BAD);
        }
        for (int i = 0; i < 6; i++) {
            eq("5 number", x.doing(5 - i, 4 * i), i);
        }
        eq("5 full", x.doing(0, 0), FULL);
        eq("5 bad ahead of full", x.doing(6, 0), BAD);
        eq("5 bad ahead of full", x.doing(0, 21), BAD);
        for (int i = 0; i < 6; i++) {
            eq("5 kind", x.of(i, 0), 5 - i);
            eq("5 worth", x.of(i, 1), 4 * i);
        }
        refusals("5", x, wrong.length + 2, 0, 1);
    }

    private static void type() {
        BedFrontier x = new BedFrontier();
        eq("6 below", x.type(-1), BAD);
        eq("6 above", x.type(128), BAD);
        eq("6 the text of none", x.count(6), 0);
        eq("6 least byte", x.type(0), 1);
        eq("6 highest byte", x.type(127), 2);
        for (int i = 3; i <= 150; i++) {
            eq("6 how many", x.type(32), i);
        }
        eq("6 full", x.type(32), FULL);
        eq("6 bad ahead of full", x.type(128), BAD);
        eq("6 the text stays", x.count(6), 150);
        refusals("6", x, 3, 0, 1);
    }

    private static void clear() {
        BedFrontier x = new BedFrontier();
        eq("7 empty", x.clear(), 0);
        Check.typeAll(x, "house 5;");
        eq("7 how many", x.clear(), 8);
        eq("7 empty now", x.count(6), 0);
        Check.typeAll(x, "house");
        eq("7 nothing of it is left", x.read(), -15);
        eq("7 again", x.clear(), 5);
    }

    private static void read() {
        BedFrontier x = full();
        x.does(4, 1);
        x.waits(3);
        x.note(1, 0, 0, 0, 0);
        x.child(3);
        x.image(1);
        x.bar(0, 255);
        x.from(7);
        Check.typeAll(x, "house 7;bar 1 23 0 5;rate 1 8;doing 2 20;war;doing 4 1;");
        eq("8 items", x.read(), 6);
        int[] counts = {2, 0, 0, 0, 0, 0, 55};
        for (int what = 0; what <= 6; what++) {
            eq("8 count " + what, x.count(what), counts[what]);
        }
        eq("8 war", x.now(3), 1);
        eq("8 his rate as at first", x.rate(0, 1), 1);
        eq("8 her rate", x.rate(1, 8), 8);
        eq("8 his bars as at first", x.bar(0, 0), 0);
        eq("8 her bars", x.bar(1, 0), 1 + (1 << 5) + (1 << 23));
        eq("8 kind", x.of(0, 0), 2);
        eq("8 worth", x.of(0, 1), 20);
        eq("8 nothing to undo", x.undo(), NO);
        eq("8 the fraction stays", x.part(1), 3);
        eq("8 toll", x.does(1, 1), 7);
        refusals("8", x, 1, 1, 0);
        Check.typeAll(x, "house 1;doing 6 0;");
        long before = x.digest();
        eq("8 fault", x.read(), -24);
        eq("8 all stays", x.digest(), before);
        refusals("8 a fault is no refusal", x, 1, 1, 0);
        eq("8 images stay", x.from(1), 1);
        eq("8 image's side", x.now(0), 1);
        eq("8 image's hour", x.now(1), 4);
        eq("8 the text stays over an image", x.count(6), 18);
    }

    private static void does() {
        BedFrontier x = full();
        x.bar(0, 1 << 2);
        x.bar(1, 1 << 4);
        eq("9 plain on his side", x.does(0, 0), 4);
        eq("9 snoring on hers in hour 2 by her clock, with toll", x.does(3, 1), 4 + 2 + 2 + 3);
        eq("9 now on hers", x.now(0), 1);
        eq("9 hour", x.now(1), 2);
        eq("9 paid", x.now(2), 15);
        eq("9 barred for a quarrel", x.does(2, 0), NO);
        eq("9 a cat passes", x.does(4, 0), 3);
        eq("9 hers is barred by her clock", x.does(1, 1), NO);
        eq("9 his is free", x.does(1, 0), 0);
        eq("9 paid", x.now(2), 18);
        long before = x.digest();
        int[][] wrong = {{6, 0}, {-1, 0}, {0, 2}, {0, -1}, {HIGH, 0}, {LOW, LOW}};
        for (int[] w : wrong) {
            eq("9 wrong", x.does(w[0], w[1]), BAD);
        }
        eq("9 refused changes nothing", x.digest(), before);
        refusals("9", x, wrong.length, 2, 0);
        x.waits(19);
        eq("9 in hour 23", x.does(0, 0), 4);
        eq("9 a new day", x.now(1), 0);
        eq("9 may be undone", x.undo(), 18);
    }

    private static void waits() {
        BedFrontier x = new BedFrontier();
        eq("10 one", x.waits(1), 1);
        eq("10 some", x.waits(22), 23);
        eq("10 over the day", x.waits(1), 0);
        eq("10 a whole day", x.waits(24), 0);
        eq("10 over it", x.waits(23), 23);
        eq("10 over it", x.waits(24), 23);
        int[] wrong = {0, 25, -1, LOW, HIGH};
        for (int w : wrong) {
            eq("10 wrong", x.waits(w), BAD);
        }
        eq("10 hour", x.now(1), 23);
        eq("10 each is one to undo", x.count(5), 6);
        x.undo();
        x.undo();
        eq("10 undone together", x.now(1), 0);
        refusals("10", x, wrong.length, 0, 0);
    }

    private static void war() {
        BedFrontier x = new BedFrontier();
        eq("11 none was", x.war(1), 0);
        eq("11 there was", x.war(1), 1);
        eq("11 there was", x.war(0), 1);
        eq("11 none was", x.war(0), 0);
        eq("11 wrong", x.war(2), BAD);
        eq("11 wrong", x.war(-1), BAD);
        eq("11 each telling may be undone", x.count(5), 4);
        x.undo();
        x.undo();
        eq("11 undone", x.now(3), 1);
        refusals("11", x, 2, 0, 0);
    }

    private static void undo() {
        BedFrontier x = full();
        eq("12 none", x.undo(), NO);
        x.does(0, 1);
        x.waits(5);
        x.war(1);
        x.does(2, 0);
        eq("12 paid", x.now(2), 6 + 3 + 8 + 3);
        eq("12 paid then", x.undo(), 9);
        eq("12 side then", x.now(0), 1);
        eq("12 hour then", x.now(1), 6);
        eq("12 still war", x.now(3), 1);
        eq("12 war", x.undo(), 9);
        eq("12 no war", x.now(3), 0);
        eq("12 wait", x.undo(), 9);
        eq("12 hour then", x.now(1), 1);
        x.rate(0, 9);
        eq("12 first", x.undo(), 0);
        eq("12 side at first", x.now(0), 0);
        eq("12 none more", x.undo(), NO);
        eq("12 a rate is not undone", x.rate(0, 9), 9);
        for (int i = 0; i < 10; i++) {
            x.waits(1);
        }
        eq("12 8 at most", x.count(5), 8);
        for (int i = 0; i < 8; i++) {
            x.undo();
        }
        eq("12 the last ones", x.now(1), 2);
        eq("12 no more", x.undo(), NO);
        x.waits(1);
        eq("12 a doing that is refused", x.doing(0, 0), FULL);
        eq("12 leaves it", x.count(5), 1);
        BedFrontier y = new BedFrontier();
        y.waits(1);
        y.doing(0, 0);
        eq("12 none behind a doing that comes", y.undo(), NO);
        eq("12 the hour stays", y.now(1), 1);
        refusals("12", x, 0, 3, 1);
    }

    private static void of() {
        BedFrontier x = new BedFrontier();
        eq("13 none there", x.of(0, 0), BAD);
        x.doing(5, 17);
        eq("13 kind", x.of(0, 0), 5);
        eq("13 worth", x.of(0, 1), 17);
        int[][] wrong = {{1, 0}, {-1, 0}, {0, 2}, {0, -1}, {HIGH, 0}};
        for (int[] w : wrong) {
            eq("13 wrong", x.of(w[0], w[1]), BAD);
        }
        refusals("13", x, wrong.length + 1, 0, 0);
    }

    private static void now() {
        BedFrontier x = full();
        x.does(0, 1);
        x.war(1);
        int[] want = {1, 1, 9, 1};
        for (int what = 0; what < 4; what++) {
            eq("14 now " + what, x.now(what), want[what]);
        }
        eq("14 wrong", x.now(4), BAD);
        eq("14 wrong", x.now(-1), BAD);
        refusals("14", x, 2, 0, 0);
    }

    private static void due() {
        BedFrontier x = full();
        x.bar(0, 1 << 5);
        x.bar(1, 1);
        eq("15 his hour 5 barred", x.due(0, 0, 5), NONE);
        eq("15 hers is not", x.due(0, 1, 5), 6);
        eq("15 her hour 0 is his 23", x.due(0, 1, 23), NONE);
        eq("15 his is not", x.due(0, 0, 23), 4);
        eq("15 her hour 1 is free", x.due(0, 1, 0), 6);
        eq("15 no toll in it", x.due(4, 1, 23), 0);
        int[][] wrong = {{6, 0, 0}, {-1, 0, 0}, {0, 2, 0}, {0, -1, 0}, {0, 0, 24}, {0, 0, -1}};
        for (int[] w : wrong) {
            eq("15 wrong", x.due(w[0], w[1], w[2]), BAD);
        }
        refusals("15: NONE is no refusal", x, wrong.length, 0, 0);
    }

    private static void dueOfEachKind() {
        BedFrontier x = full();
        for (int war = 0; war <= 1; war++) {
            x.war(war);
            for (int his = 0; his < 24; his++) {
                int hers = (his + 1) % 24;
                int night = his >= 22 || his < 6 ? 2 : 0;
                int herNight = hers >= 22 || hers < 6 ? 2 : 0;
                int[] want = {4, 0, 4 + 4 * war, 4 + night, 0, 4 + night};
                int[] herWant = {6, 0, 6 + 6 * war, 6 + herNight, 0, 5 + herNight};
                for (int d = 0; d < 6; d++) {
                    eq("15 his, kind " + d + " at " + his, x.due(d, 0, his), want[d]);
                    eq("15 hers, kind " + d + " at " + his, x.due(d, 1, his), herWant[d]);
                }
            }
        }
        x.bar(0, ALL);
        x.bar(1, ALL);
        for (int war = 0; war <= 1; war++) {
            x.war(war);
            for (int his = 0; his < 24; his++) {
                boolean hersLate = his == 21 || his == 22;
                for (int d = 0; d < 6; d++) {
                    boolean late = d == 3 || d == 5 && war == 0;
                    eq("15 passes his", x.due(d, 0, his) >= 0 ? 1 : 0, d == 4 || late && his >= 22 ? 1 : 0);
                    eq("15 passes hers", x.due(d, 1, his) >= 0 ? 1 : 0, d == 4 || late && hersLate ? 1 : 0);
                }
            }
        }
        BedFrontier y = new BedFrontier();
        y.rate(0, 0);
        y.rate(1, 0);
        y.doing(5, 4);
        eq("15 worth is cut, a lamp 0 at least", y.due(0, 1, 12), 0);
        eq("15 a lamp at night on hers", y.due(0, 1, 0), 1);
        eq("15 a lamp at night on his", y.due(0, 0, 0), 2);
    }

    private static void both() {
        BedFrontier x = full();
        x.bar(0, 1 << 3 | 1 << 22 | 1 << 23 | 1 << 7);
        x.bar(1, 1 << 4 | 1 << 23 | 1);
        int plain = 1 << 3 | 1 << 22 | 1 << 23;
        eq("16 plain", x.both(0, 0), plain);
        eq("16 snoring passes late", x.both(3, 0), 1 << 3);
        eq("16 a cat", x.both(4, 0), 0);
        eq("16 first of a cat", x.both(4, 1), NONE);
        eq("16 first from hour 0", x.both(0, 1), 3);
        x.waits(3);
        eq("16 first from hour 3 is 3", x.both(0, 1), 3);
        x.waits(1);
        eq("16 first from hour 4", x.both(0, 1), 22);
        eq("16 over 23 on", x.both(3, 1), 3);
        x.war(1);
        eq("16 a lamp in war", x.both(5, 0), plain);
        int[][] wrong = {{6, 0}, {-1, 1}, {0, 2}, {0, -1}};
        for (int[] w : wrong) {
            eq("16 wrong", x.both(w[0], w[1]), BAD);
        }
        refusals("16", x, wrong.length, 0, 0);
    }

    private static void least() {
        BedFrontier x = new BedFrontier();
        eq("17 nothing wanted", x.least(NONE), 0);
        eq("17 no such doing", x.least(0), -10);
        eq("17 wrong", x.least(-2), -10);
        x.house(2);
        x.rate(1, 0);
        x.doing(0, 10);
        eq("17 toll 2 and 2 beats 3", x.least(NONE), 3);
        eq("17 his side, at the last hour", x.least(0), 230);
        x.doing(0, 10);
        eq("17 both on hers, one toll", x.least(NONE), 6);
        eq("17 of like ones his", x.least(0), 220);
        x.doing(0, 10);
        eq("17 three on hers", x.least(NONE), 8);
        eq("17 first", x.least(0), 211);
        eq("17 second", x.least(1), 221);
        eq("17 third", x.least(2), 231);
        eq("17 no fourth", x.least(3), -10);
        x.waits(21);
        eq("17 just enough hours", x.least(NONE), 8);
        x.waits(1);
        eq("17 too few hours", x.least(NONE), NONE);
        eq("17 too few hours, whatever i is", x.least(1), NONE);
        refusals("17", x, 3, 0, 0);
        long before = x.digest();
        x.least(NONE);
        eq("17 changes nothing", x.digest(), before);
        BedFrontier y = new BedFrontier();
        y.doing(2, 0);
        y.bar(0, ALL);
        y.bar(1, ALL - 1);
        eq("17 only in his hour 23, over the line", y.least(NONE), 2);
        eq("17 there", y.least(0), 231);
        y.war(1);
        eq("17 war counts", y.least(NONE), 3);
        y.bar(1, ALL);
        eq("17 nowhere", y.least(NONE), NONE);
        eq("17 nowhere", y.least(0), NONE);
    }

    private static void leastFirstWay() {
        BedFrontier x = new BedFrontier();
        x.house(0);
        x.doing(1, 0);
        x.doing(1, 0);
        x.bar(0, 1 << 23);
        x.bar(1, 0);
        // in hour 22 doing 0 on side 0 is ahead; in 23 only hers is open
        eq("17 first on his", x.least(0), 220);
        eq("17 second on hers", x.least(1), 231);
        x.bar(0, ALL - (1 << 4) - (1 << 9));
        x.bar(1, ALL);
        eq("17 in hour 4", x.least(0), 40);
        eq("17 in hour 9", x.least(1), 90);
        x.waits(5);
        eq("17 hour 4 is gone", x.least(NONE), NONE);
        BedFrontier y = new BedFrontier();
        y.house(9);
        y.rate(0, 9);
        y.rate(1, 0);
        y.doing(4, 0);
        y.doing(0, 0);
        y.doing(0, 0);
        // 9 for the line once; the cat alone may stay on his side ahead of it, for nothing
        eq("17 once over", y.least(NONE), 9);
        eq("17 the cat ahead on his", y.least(0), 210);
        eq("17 the first behind it", y.least(1), 221);
        eq("17 the second behind it", y.least(2), 231);
    }

    private static void before() {
        BedFrontier x = new BedFrontier();
        eq("18 his both", x.before(0, 3, 0, 4), 1);
        eq("18 his both", x.before(0, 4, 0, 3), 2);
        eq("18 his both", x.before(0, 4, 0, 4), 0);
        eq("18 hers both, 0 is the last", x.before(1, 0, 1, 23), 2);
        eq("18 hers both, 1 is the first", x.before(1, 1, 1, 2), 1);
        eq("18 her 5 is his 4", x.before(1, 5, 0, 4), 0);
        eq("18 his 4 is her 5", x.before(0, 4, 1, 5), 0);
        eq("18 her 4 is ahead of his 4", x.before(1, 4, 0, 4), 1);
        eq("18 her 0 is his 23", x.before(1, 0, 0, 22), 2);
        int[][] wrong = {{2, 0, 0, 0}, {-1, 0, 0, 0}, {0, 24, 0, 0}, {0, -1, 0, 0}, {0, 0, 2, 0},
            {0, 0, -1, 0}, {0, 0, 0, 24}, {0, 0, 0, -1}};
        for (int[] w : wrong) {
            eq("18 wrong", x.before(w[0], w[1], w[2], w[3]), BAD);
        }
        refusals("18", x, wrong.length, 0, 0);
    }

    private static void child() {
        BedFrontier x = new BedFrontier();
        int[][] parts = {{0, 1}, {0, 1}, {0, 1}, {1, 3}, {2, 3}, {1, 1}, {1, 1}, {1, 1}};
        for (int c = 7; c >= 0; c--) {
            eq("19 child", x.child(c), 1);
            eq("19 above", x.part(0), parts[c][0]);
            eq("19 below", x.part(1), parts[c][1]);
        }
        x.child(4);
        eq("19 wrong", x.child(8), BAD);
        eq("19 wrong", x.child(-1), BAD);
        eq("19 the fraction stays", x.part(0), 2);
        refusals("19", x, 2, 0, 0);
    }

    private static void where() {
        BedFrontier x = full();
        eq("20 his is cheaper", x.where(0), 0);
        x.rate(1, 1);
        eq("20 hers is cheaper", x.where(0), 5);
        x.rate(1, 2);
        eq("20 alike: the least", x.where(0), 0);
        x.bar(0, 1);
        eq("20 his barred", x.where(0), 5);
        x.bar(1, 2);
        eq("20 both barred", x.where(0), 0);
        eq("20 a cat for nothing on both", x.where(4), 0);
        x.bar(0, 0);
        eq("20 hers barred in her hour 1", x.where(0), 0);
        x.waits(1);
        x.rate(1, 0);
        eq("20 no more in her hour 2", x.where(0), 5);
        eq("20 wrong", x.where(6), BAD);
        eq("20 wrong", x.where(-1), BAD);
        refusals("20", x, 2, 0, 0);
    }

    private static void bars() {
        BedFrontier x = full();
        // his 4, hers 6: neither bars: his has 4; if he bars, hers has 6
        eq("21 his cheaper: he lets, she does as she likes", x.bars(0), 1 | 4);
        x.rate(1, 1);
        eq("21 hers cheaper: she lets, he does as he likes", x.bars(0), 1 | 2);
        x.rate(1, 2);
        eq("21 alike: his", x.bars(0), 1 | 4);
        eq("21 for nothing all rest", x.bars(1), 15);
        eq("21 a cat", x.bars(4), 15);
        x.bar(0, ALL);
        x.bar(1, ALL);
        eq("21 whatever they bar now", x.bars(0), 1 | 4);
        x.waits(22);
        eq("21 snoring passes on both at 22 and 23", x.bars(3), 15);
        x.waits(1);
        // at 23 his passes, her 0 does not: his 6, hers 6
        eq("21 his passes always", x.bars(3), 15);
        x.rate(1, 0);
        // hers 4 is cheaper, but only while she does not bar
        eq("21 she has 4 by letting", x.bars(3), 1 | 2);
        eq("21 wrong", x.bars(6), BAD);
        eq("21 wrong", x.bars(-1), BAD);
        refusals("21", x, 2, 0, 0);
    }

    private static void note() {
        BedFrontier x = full();
        int[][] wrong = {{6, 0, 0, 0, 0}, {-1, 0, 0, 0, 0}, {0, 2, 0, 0, 0}, {0, -1, 0, 0, 0},
            {0, 0, 24, 0, 0}, {0, 0, -1, 0, 0}, {0, 0, 0, 2, 0}, {0, 0, 0, -1, 0}, {0, 0, 0, 0, 61},
            {0, 0, 0, 0, -1}};
        for (int[] w : wrong) {
            eq("22 wrong", x.note(w[0], w[1], w[2], w[3], w[4]), BAD);
        }
        for (int i = 1; i <= 6; i++) {
            eq("22 how many", x.note(5, 1, 23, 1, 60), i);
        }
        eq("22 full", x.note(0, 0, 0, 0, 0), FULL);
        eq("22 bad ahead of full", x.note(0, 0, 0, 0, 61), BAD);
        eq("22 they are 6", x.count(4), 6);
        refusals("22", x, wrong.length + 1, 0, 1);
    }

    private static void forget() {
        BedFrontier x = full();
        eq("23 none", x.forget(), 0);
        x.note(0, 0, 0, 0, 7);
        x.note(1, 0, 0, 0, 7);
        eq("23 unfit", x.is(0), 0);
        eq("23 two", x.forget(), 2);
        eq("23 none now", x.count(4), 0);
        eq("23 all fits again", x.is(0), 63);
        eq("23 a new first one", x.note(0, 0, 0, 0, 0), 1);
        eq("23 it alone", x.is(0), 1 << 1 | 1 << 4);
    }

    private static void is() {
        BedFrontier x = full();
        eq("24 no notes", x.is(2), 63);
        x.note(0, 0, 12, 1, 4);
        eq("24 plain, snoring, lamp on his in war at noon", x.is(0), 1 | 8 | 32);
        eq("24 another doing", x.is(1), 63);
        x.note(0, 1, 0, 0, 7);
        eq("24 a lamp on hers at night", x.is(0), 32);
        x.rate(1, 3);
        eq("24 by the rate as it is: 3 and 2 and 2 by snoring", x.is(0), 8);
        x.note(3, 0, 12, 1, 8);
        eq("24 a quarrel in war", x.is(3), 4);
        x.bar(0, ALL);
        eq("24 barred or not", x.is(3), 4);
        x.note(4, 0, 21, 0, 4);
        eq("24 hour by that side's clock, 21 is early", x.is(4), 1 | 4 | 8 | 32);
        x.note(4, 1, 22, 0, 7);
        eq("24 her hour 22 by her clock", x.is(4), 8);
        eq("24 wrong", x.is(6), BAD);
        eq("24 wrong", x.is(-1), BAD);
        refusals("24", x, 2, 0, 0);
    }

    private static void look() {
        BedFrontier x = full();
        // his at night 4, 0, 4, 6, 0, 6: two alike at the most; by day four owe 4
        eq("25 three pairs at night, hour 0 is the first", x.look(0, 0), 0);
        x.waits(12);
        eq("25 whatever the hour is", x.look(0, 0), 0);
        x.note(0, 0, 12, 1, 4);
        eq("25 plain, snoring and lamp are left", x.is(0), 1 | 8 | 32);
        eq("25 hers at night 6, 8, 7", x.look(0, 1), 0);
        x.note(1, 0, 0, 0, 4);
        eq("25 plain and quarrel are left", x.is(1), 1 | 4);
        eq("25 all hours are alike: the first", x.look(1, 0), 0);
        x.note(2, 1, 12, 0, 5);
        eq("25 a lamp alone", x.look(2, 1), 0);
        x.note(3, 0, 12, 0, 39);
        eq("25 no kind", x.look(3, 0), NONE);
        eq("25 no kind on either side", x.look(3, 1), NONE);
        int[][] wrong = {{6, 0}, {-1, 0}, {0, 2}, {0, -1}};
        for (int[] w : wrong) {
            eq("25 wrong", x.look(w[0], w[1]), BAD);
        }
        refusals("25: NONE is no refusal", x, wrong.length, 0, 0);
    }

    private static void wars() {
        BedFrontier x = full();
        eq("26 one quarrel on his", x.wars(0, 0), 4);
        eq("26 one quarrel on hers", x.wars(1, 23), 6);
        x.war(1);
        x.bar(0, ALL);
        eq("26 let through or not, war or not", x.wars(0, 12), 4);
        int[][] wrong = {{2, 0}, {-1, 0}, {0, 24}, {0, -1}, {LOW, HIGH}};
        for (int[] w : wrong) {
            eq("26 wrong", x.wars(w[0], w[1]), -1000);
        }
        refusals("26", x, wrong.length, 0, 0);
        BedFrontier y = new BedFrontier();
        eq("26 no doings", y.wars(0, 0), 0);
        y.doing(2, 20);
        y.doing(2, 4);
        eq("26 two quarrels", y.wars(1, 5), 5 + 1);
    }

    private static void fraction(String what, BedFrontier x, int above, int below) {
        eq(what + " above", x.part(0), above);
        eq(what + " below", x.part(1), below);
    }

    private static void sentry() {
        BedFrontier x = full();
        int[][] want = {{1, 1}, {99, 100}, {24, 25}, {91, 100}, {21, 25}, {3, 4}, {16, 25}, {51, 100},
            {9, 25}, {19, 100}, {0, 1}};
        for (int c = 0; c <= 10; c++) {
            eq("27 sentry", x.sentry(0, c), 1);
            fraction("27 by " + c, x, want[c][0], want[c][1]);
        }
        x.bar(0, 1);
        x.sentry(0, 3);
        fraction("27 his barred already", x, 7, 10);
        x.sentry(4, 10);
        fraction("27 a cat always", x, 1, 1);
        x.bar(1, 2);
        x.sentry(0, 0);
        fraction("27 both barred", x, 0, 1);
        x.waits(23);
        x.sentry(3, 10);
        fraction("27 snoring passes on his at 23", x, 1, 1);
        x.bar(0, ALL);
        x.war(1);
        x.sentry(5, 4);
        fraction("27 a lamp in war, hers alone", x, 3, 5);
        int[][] wrong = {{6, 0}, {-1, 0}, {0, 11}, {0, -1}};
        for (int[] w : wrong) {
            eq("27 wrong", x.sentry(w[0], w[1]), BAD);
        }
        fraction("27 the fraction stays", x, 3, 5);
        refusals("27", x, wrong.length, 0, 0);
    }

    private static void days() {
        BedFrontier x = new BedFrontier();
        eq("28 no doings", x.days(0, 0), NO);
        eq("28 bad ahead of no", x.days(-1, 0), BAD);
        int[][] wrong = {{1000000, 0}, {-1, 0}, {0, 61}, {0, -1}};
        x.house(3);
        x.rate(1, 4);
        x.doing(0, 0);
        for (int[] w : wrong) {
            eq("28 wrong", x.days(w[0], w[1]), BAD);
        }
        // from seed 0 the numbers behind 65536 are 0, 21468, 9988, 22117, 3498, 16927: SIDES 0, 1, 1
        eq("28 none done", x.days(0, 0), 0);
        eq("28 one", x.days(0, 1), 1);
        x.image(0);
        long before = x.digest();
        eq("28 a day of sides", x.days(0, 60), paidOnSides(0, 60, 3, 1, 4));
        eq("28 the highest seed", x.days(999999, 60), paidOnSides(999999, 60, 3, 1, 4));
        eq("28 nothing is changed", x.digest(), before);
        x.bar(0, ALL);
        x.bar(1, ALL);
        eq("28 all barred", x.days(7, 60), 0);
        refusals("28: what is waited there is no refusal", x, wrong.length + 1, 1, 0);
    }

    /** One plain doing, nothing barred: what is paid hangs on the sides alone. */
    private static int paidOnSides(long seed, int n, int toll, int his, int hers) {
        java.math.BigInteger x = java.math.BigInteger.valueOf(seed);
        java.math.BigInteger times = java.math.BigInteger.valueOf(1103515245);
        java.math.BigInteger more = java.math.BigInteger.valueOf(12345);
        java.math.BigInteger whole = java.math.BigInteger.ONE.shiftLeft(31);
        int side = 0;
        int sum = 0;
        for (int i = 0; i < n; i++) {
            x = x.multiply(times).add(more).mod(whole);
            x = x.multiply(times).add(more).mod(whole);
            int s = x.testBit(16) ? 1 : 0;
            sum += (s == side ? 0 : toll) + (s == 0 ? his : hers);
            side = s;
        }
        return sum;
    }

    private static void part() {
        BedFrontier x = new BedFrontier();
        eq("29 above", x.part(0), 0);
        eq("29 below", x.part(1), 1);
        x.child(3);
        eq("29 above", x.part(0), 1);
        eq("29 below", x.part(1), 3);
        eq("29 wrong", x.part(2), BAD);
        eq("29 wrong", x.part(-1), BAD);
        refusals("29", x, 2, 0, 0);
    }

    private static void image() {
        BedFrontier x = full();
        x.does(0, 1);
        eq("30 kept", x.image(0), 1);
        x.does(0, 1);
        eq("30 another", x.image(1), 1);
        eq("30 wrong", x.image(2), BAD);
        eq("30 wrong", x.image(-1), BAD);
        x.from(0);
        eq("30 first", x.now(2), 9);
        x.waits(4);
        eq("30 kept anew", x.image(0), 1);
        x.from(1);
        eq("30 second", x.now(2), 15);
        x.from(0);
        eq("30 as kept anew", x.now(1), 5);
        refusals("30", x, 2, 0, 0);
    }

    private static void from() {
        BedFrontier x = full();
        eq("31 none kept", x.from(0), NO);
        eq("31 wrong", x.from(2), BAD);
        eq("31 wrong", x.from(-1), BAD);
        x.does(0, 1);
        x.war(1);
        x.note(0, 0, 0, 0, 1);
        x.bar(0, 77);
        x.image(1);
        eq("31 still none at 0", x.from(0), NO);
        long before = x.digest();
        x.type(65);
        x.child(4);
        x.forget();
        x.note(3, 1, 7, 1, 9);
        x.rate(0, 7);
        x.bar(0, 0);
        x.undo();
        x.undo();
        x.waits(9);
        x.does(4, 0);
        x.house(0);
        x.doing(1, 1);
        eq("31 goes on", x.from(1), 1);
        eq("31 the text is not kept", x.clear(), 1);
        fraction("31 the fraction is not kept", x, 2, 3);
        x.child(0);
        eq("31 all else is", x.digest(), before);
        eq("31 what may be undone", x.count(5), 2);
        x.undo();
        x.undo();
        x.rate(1, 0);
        x.doing(0, 0);
        eq("31 the image stands", x.from(1), 1);
        eq("31 as it was kept", x.digest(), before);
        eq("31 undone war", x.undo(), 9);
        eq("31 undone doing", x.undo(), 0);
        refusals("31 status is not kept", x, 2, 2, 1);
    }

    private static void status() {
        BedFrontier x = new BedFrontier();
        x.waits(0);
        x.undo();
        x.undo();
        for (int i = 0; i < 9; i++) {
            x.doing(0, 0);
        }
        refusals("32", x, 1, 2, 3);
        eq("32 another", x.status(3), -1);
        eq("32 another", x.status(-1), -1);
        refusals("32 counts as BAD", x, 3, 2, 3);
        x.least(9);
        x.wars(9, 9);
        x.part(9);
        x.count(9);
        x.status(LOW);
        refusals("32 each counts", x, 8, 2, 3);
        x.house(1);
        refusals("32 a house leaves it", x, 8, 2, 3);
    }

    private static void count() {
        BedFrontier x = full();
        x.waits(7);
        x.does(0, 1);
        x.note(0, 0, 0, 0, 1);
        x.note(0, 0, 0, 0, 1);
        x.note(0, 0, 0, 0, 1);
        Check.typeAll(x, "war");
        int[] want = {6, 8, 1, 9, 3, 2, 3};
        for (int what = 0; what <= 6; what++) {
            eq("33 count " + what, x.count(what), want[what]);
        }
        eq("33 wrong", x.count(7), BAD);
        eq("33 wrong", x.count(-1), BAD);
        refusals("33", x, 2, 0, 0);
    }

    private static long digestOf(long... values) {
        long h = 1217;
        for (long v : values) {
            h = 31 * h + v;
        }
        return h;
    }

    private static void digest() {
        BedFrontier x = new BedFrontier();
        eq("34 at first", x.digest(), digestOf(0, 0, 0, 0, 0, 0, 0, 1, 0, 1, 0, 1, 0, 0, 1));
        x.house(3);
        x.rate(0, 2);
        x.rate(1, 4);
        x.bar(0, 8);
        x.bar(1, ALL);
        x.doing(5, 20);
        x.doing(4, 6);
        x.war(1);
        x.does(1, 1);
        x.note(1, 1, 23, 0, 60);
        x.note(0, 0, 5, 1, 2);
        x.type(64);
        x.child(4);
        eq("34 of all", x.digest(), digestOf(2, 1, 1, 3, 2, 2, 1, 3, 1, 2, 8, 4, ALL, 5, 20, 4, 6,
                1, 1, 23, 0, 60, 0, 0, 5, 1, 2, 2, 3));
        eq("34 changes nothing", x.digest(), x.digest());
        refusals("34", x, 0, 0, 0);
    }
}
