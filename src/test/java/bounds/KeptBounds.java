/** Promises 29 to 34: the fraction, images, what was refused, counts, digests, and the last call. */
final class KeptBounds extends Bounds {
    @Holds(promise = 1, says = "An object is used for at most 512 calls after it has been made")
    void theLastOfAllCalls() {
        BedFrontier x = new BedFrontier();
        for (int i = 1; i < 512; i++) {
            x.waits(1);
        }
        eq("the hour", x.now(1), 511 % 24);
        BedFrontier y = new BedFrontier();
        y.house(9);
        y.rate(HIS, 9);
        y.rate(HERS, 9);
        y.doing(QUARREL, 20);
        y.war(1);
        for (int i = 0; i < 506; i++) {
            y.does(0, 1 - i % 2);
        }
        eq("the most that can be paid", y.now(2), 506 * 35);
        BedFrontier z = new BedFrontier();
        for (int i = 1; i < 512; i++) {
            z.status(-1);
        }
        eq("the most that can be refused", z.status(0), 511);
    }

    @Holds(promise = 29, says = "THE FRACTION is 0 by 1 at first; lowest terms, below above 0.")
    void fractionAtFirstAndLowest() {
        BedFrontier x = one(PLAIN, 0);
        fraction("at first", x, 0, 1);
        x.child(5);
        fraction("3 by 3", x, 1, 1);
        x.child(0);
        fraction("0 by 3", x, 0, 1);
        x.sentry(0, 0);
        fraction("100 by 100", x, 1, 1);
        x.sentry(0, 10);
        fraction("0 by 100", x, 0, 1);
        x.sentry(0, 5);
        fraction("75 by 100", x, 3, 4);
        x.sentry(0, 2);
        fraction("96 by 100", x, 24, 25);
        x.sentry(0, 3);
        fraction("91 by 100", x, 91, 100);
    }

    @Holds(promise = 29, says = "THE FRACTION: above (0), below (1). BAD.")
    void partTooSmallTooLarge() {
        BedFrontier x = new BedFrontier();
        x.child(3);
        range(x, 0, 1, what -> x.part(what));
        taken(x, 1, () -> x.part(0));
        taken(x, 3, () -> x.part(1));
    }

    @Holds(promise = 30, says = "An IMAGE is kept: 1. BAD.")
    void imageTooSmallTooLarge() {
        BedFrontier x = new BedFrontier();
        bad(x, () -> x.image(2));
        bad(x, () -> x.image(-1));
        no(x, () -> x.from(0));
        no(x, () -> x.from(1));
        range(x, 0, 1, i -> x.image(i));
        taken(x, 1, () -> x.image(0));
        taken(x, 1, () -> x.image(1));
    }

    @Holds(promise = 30, says = "IMAGES 0, 1 keep all but them, THE TEXT, THE FRACTION and STATUS")
    void imagesLeaveEachOtherTextFractionStatus() {
        BedFrontier x = kinds();
        Check.typeAll(x, "house");
        x.child(3);
        x.undo();
        x.image(0);
        x.waits(5);
        x.image(1);
        x.type(' ');
        x.child(4);
        x.waits(0);
        x.undo();
        x.undo();
        x.doing(0, 0);
        eq("back", x.from(0), 1);
        eq("bytes are not kept", x.count(6), 6);
        fraction("the fraction is not kept", x, 2, 3);
        eq("BAD is not kept", x.status(0), 1);
        eq("NO is not kept", x.status(1), 2);
        eq("FULL is not kept", x.status(2), 1);
        eq("the hour is", x.now(1), 0);
        eq("image 1 is not kept in image 0", x.from(1), 1);
        eq("its hour", x.now(1), 5);
    }

    @Holds(promise = 30, says = "what may be undone they keep")
    void imageOfAllThatMayBeUndone() {
        BedFrontier x = kinds();
        for (int i = 0; i < 7; i++) {
            x.waits(1);
        }
        x.does(PLAIN, HERS);
        x.image(1);
        for (int i = 0; i < 9; i++) {
            x.war(1);
        }
        x.from(1);
        eq("eight", x.count(5), 8);
        eq("the doing", x.undo(), 0);
        eq("its side", x.now(0), HIS);
        for (int i = 6; i >= 0; i--) {
            x.undo();
            eq("the hour", x.now(1), i);
        }
        no(x, () -> x.undo());
        x.image(0);
        x.waits(1);
        x.from(0);
        eq("none", x.count(5), 0);
        no(x, () -> x.undo());
    }

    @Holds(promise = 31, says = "what may be undone they keep; it goes on from one.")
    void anImageStandsWhileItGoesOn() {
        BedFrontier x = kinds();
        x.does(PLAIN, HERS);
        x.note(0, 0, 0, 0, 1);
        x.bar(HIS, ALL);
        x.image(0);
        long digest = x.digest();
        for (int i = 0; i < 2; i++) {
            x.house(9);
            x.doing(LAMP, 20);
            x.war(1);
            x.note(0, 1, 1, 1, 1);
            x.note(0, 1, 1, 1, 1);
            x.rate(HERS, 7);
            eq("from", x.from(0), 1);
            eq("as it was", x.digest(), digest);
            x.undo();
            x.forget();
            x.bar(HIS, 0);
            x.rate(HIS, 0);
        }
        eq("of a house without doings", x.house(1), 6);
        x.image(0);
        x.doing(0, 0);
        x.from(0);
        eq("none", x.count(0), 0);
        eq("as a new one", x.digest(), new BedFrontier().digest());
    }

    @Holds(promise = 31, says = "It goes on from an IMAGE: 1. BAD; NO: none was kept.")
    void fromTooSmallTooLargeNone() {
        BedFrontier x = kinds();
        no(x, () -> x.from(0));
        no(x, () -> x.from(1));
        bad(x, () -> x.from(2));
        bad(x, () -> x.from(-1));
        x.image(1);
        no(x, () -> x.from(0));
        taken(x, 1, () -> x.from(1));
        x.image(0);
        range(x, 0, 1, i -> x.from(i));
    }

    @Holds(promise = 32, says = "STATUS: how many calls were refused as BAD, NO, FULL (each answer told so "
            + "below is such a one).")
    void eachRefusalCounts() {
        BedFrontier x = new BedFrontier();
        status(x, 0, 0, 0);
        x.house(10);
        x.rate(2, 0);
        x.bar(2, 0);
        x.doing(6, 0);
        x.type(128);
        x.does(0, 0);
        x.waits(0);
        x.war(2);
        x.of(0, 0);
        x.now(4);
        status(x, 10, 0, 0);
        x.due(0, 0, 0);
        x.both(0, 0);
        x.least(0);
        x.before(2, 0, 0, 0);
        x.child(8);
        x.where(0);
        x.bars(0);
        x.note(0, 0, 0, 0, 0);
        x.is(0);
        x.look(0, 0);
        status(x, 20, 0, 0);
        x.wars(2, 0);
        x.sentry(0, 0);
        x.days(-1, 0);
        x.part(2);
        x.image(2);
        x.from(2);
        x.status(3);
        x.count(7);
        status(x, 28, 0, 0);
        x.undo();
        x.from(0);
        x.days(0, 0);
        status(x, 28, 3, 0);
        full(x);
        status(x, 28, 4, 3);
    }

    /** Three calls that are FULL, one that is NO. */
    private static void full(BedFrontier x) {
        for (int i = 0; i < 7; i++) {
            x.doing(PLAIN, 0);
        }
        for (int i = 0; i < 7; i++) {
            x.note(0, 0, 0, 0, 0);
        }
        for (int i = 0; i < 151; i++) {
            x.type(32);
        }
        x.bar(HIS, ALL);
        x.does(0, HIS);
    }

    private void status(BedFrontier x, int bad, int no, int full) {
        eq("BAD", x.status(0), bad);
        eq("NO", x.status(1), no);
        eq("FULL", x.status(2), full);
    }

    @Holds(promise = 32, says = "(each answer told so below is such a one)")
    void noOtherAnswerCounts() {
        BedFrontier x = kinds();
        barBoth(x, ALL);
        x.note(0, 0, 0, 0, 60);
        taken(x, NONE, () -> x.due(0, 0, 0));
        taken(x, NONE, () -> x.both(CAT, 1));
        taken(x, NONE, () -> x.least(NONE));
        taken(x, NONE, () -> x.look(0, 0));
        taken(x, -10, () -> x.read());
    }

    @Holds(promise = 32, says = "Refused, changing nothing but STATUS, the first of: BAD -2 a number is not "
            + "as told; NO -3 as told; FULL -4")
    void theFirstOfBadNoFull() {
        eq("NONE", BedFrontier.NONE, -1);
        eq("BAD", BedFrontier.BAD, -2);
        eq("NO", BedFrontier.NO, -3);
        eq("FULL", BedFrontier.FULL, -4);
        BedFrontier x = new BedFrontier();
        bad(x, () -> x.days(0, 61));
        no(x, () -> x.days(0, 60));
        bad(x, () -> x.from(2));
        no(x, () -> x.from(1));
        full(x);
        bad(x, () -> x.does(0, 2));
        no(x, () -> x.does(0, HIS));
        bad(x, () -> x.doing(0, 21));
        full(x, () -> x.doing(0, 20));
        bad(x, () -> x.note(0, 0, 0, 0, 61));
        full(x, () -> x.note(0, 0, 0, 0, 60));
        bad(x, () -> x.type(128));
        full(x, () -> x.type(127));
    }

    @Holds(promise = 32, says = "(where others are told they count as these)")
    void othersCountAsBad() {
        BedFrontier x = new BedFrontier();
        refused(x, 0, -10, () -> x.least(0));
        refused(x, 0, -1000, () -> x.wars(2, 0));
        refused(x, 0, -1, () -> x.status(3));
    }

    @Holds(promise = 32, says = "STATUS: BAD (0), NO (1), FULL (2). -1: another what (counts as BAD).")
    void statusTooSmallTooLarge() {
        BedFrontier x = new BedFrontier();
        range(x, 0, 2, -1, what -> x.status(what));
        status(x, 4, 0, 0);
    }

    @Holds(promise = 33, says = "How many: 0 DOINGS, 1 the HOUR, 2 the SIDE, 3 PAID, 4 NOTES, 5 that may be "
            + "undone, 6 bytes of THE TEXT. BAD.")
    void countOfNoneOfMost() {
        BedFrontier x = new BedFrontier();
        counts(x, 0, 0, 0, 0, 0, 0, 0);
        range(x, 0, 6, what -> x.count(what));
        full(x);
        x.waits(13);
        for (int i = 0; i < 10; i++) {
            x.does(0, HERS);
        }
        counts(x, 6, 23, 1, 11, 6, 8, 150);
        range(x, 0, 6, what -> x.count(what));
    }

    private void counts(BedFrontier x, int... want) {
        for (int what = 0; what < want.length; what++) {
            eq("count " + what, x.count(what), want[what]);
        }
    }

    @Holds(promise = 34, says = "h = 1217; then h = 31 h + v for each v: count(0) to count(6); TOLL; WAR (1, "
            + "0); of SIDES RATE, HOURS BARRED (bits); of DOINGS KIND, WORTH; of NOTES DOING, SIDE, h, war, "
            + "n; THE FRACTION.")
    void digestOfNoneOfMost() {
        BedFrontier x = new BedFrontier();
        eq("at first", x.digest(), digest(0, 0, 0, 0, 0, 0, 0, 1, 0, 1, 0, 1, 0, 0, 1));
        x.house(9);
        x.rate(HIS, 9);
        x.rate(HERS, 0);
        x.bar(HIS, ALL - bit(23));
        x.bar(HERS, ALL);
        for (int d = 0; d < 6; d++) {
            x.doing(d, 20 - d);
        }
        for (int d = 0; d < 6; d++) {
            x.note(d, d % 2, 23 - d, 1 - d % 2, 60 - d);
        }
        x.waits(22);
        x.war(1);
        x.does(CAT, HERS);
        for (int i = 0; i < 150; i++) {
            x.type(i % 128);
        }
        x.child(4);
        // {count 0 to 6}, toll, war, {rate, hours}, {kind, worth}, {doing, side, h, war, n}, fraction
        eq("of most", x.digest(), digest(6, 23, 1, 9, 6, 3, 150, 9, 1, 9, ALL - bit(23), 0, ALL,
                0, 20, 1, 19, 2, 18, 3, 17, 4, 16, 5, 15,
                0, 0, 23, 1, 60, 1, 1, 22, 0, 59, 2, 0, 21, 1, 58, 3, 1, 20, 0, 57, 4, 0, 19, 1, 56,
                5, 1, 18, 0, 55, 2, 3));
    }

    /** By numbers without end, cut to 64 bits: the digest goes round where a long does. */
    private static long digest(long... values) {
        java.math.BigInteger h = java.math.BigInteger.valueOf(1217);
        for (long v : values) {
            h = h.multiply(java.math.BigInteger.valueOf(31)).add(java.math.BigInteger.valueOf(v));
        }
        return h.longValue();
    }
}
