/** Promises 22 to 28: notes and what they leave, wars, sentries and days at their edges. */
final class PaidBounds extends Bounds {
    @Holds(promise = 22, says = "NOTES 0 .. 5, as they come: in WAR (1) or not (0), for a DOING on SIDE s")
    void noteOfEachEdge() {
        BedFrontier x = kinds();
        range(x, 0, 5, d -> x.note(d, HIS, 0, 0, 0));
        range(x, 0, 1, s -> x.note(0, s, 0, 0, 0));
        range(x, 0, 1, war -> x.note(0, HIS, 0, war, 0));
        eq("six came", x.count(4), 6);
        BedFrontier none = new BedFrontier();
        bad(none, () -> none.note(0, 0, 0, 0, 0));
    }

    @Holds(promise = 22, says = "in HOUR h of that SIDE's clock (0 .. 23) there was paid n (0 .. 60).")
    void noteHourAndPaidTooSmallTooLarge() {
        BedFrontier x = kinds();
        range(x, 0, 23, h -> x.note(0, HERS, h, 0, 0));
        range(x, 0, 60, n -> x.note(0, HERS, 0, 0, n));
        eq("four came", x.count(4), 4);
    }

    @Holds(promise = 22, says = "A NOTE: how many there are. BAD; FULL: 6.")
    void aSeventhNote() {
        BedFrontier x = kinds();
        for (int i = 1; i <= 6; i++) {
            int many = i;
            taken(x, many, () -> x.note(many - 1, HERS, 23, 1, 60));
        }
        full(x, () -> x.note(0, 0, 0, 0, 0));
        bad(x, () -> x.note(6, 0, 0, 0, 0));
        bad(x, () -> x.note(0, 2, 0, 0, 0));
        bad(x, () -> x.note(0, 0, 24, 0, 0));
        bad(x, () -> x.note(0, 0, 0, 2, 0));
        bad(x, () -> x.note(0, 0, 0, 0, 61));
        x.forget();
        taken(x, 1, () -> x.note(0, 0, 0, 0, 0));
    }

    @Holds(promise = 23, says = "No NOTES: how many there were.")
    void forgetNoneAndSix() {
        BedFrontier x = kinds();
        taken(x, 0, () -> x.forget());
        for (int i = 0; i < 6; i++) {
            x.note(0, 0, 0, 0, 60);
        }
        eq("no kind fits", x.is(0), 0);
        taken(x, 6, () -> x.forget());
        taken(x, 0, () -> x.forget());
        eq("all fit", x.is(0), 63);
        eq("no notes", x.count(4), 0);
    }

    @Holds(promise = 24, says = "IS: KINDS (bits) by which all NOTES of it are so.")
    void noNotesAndNoKind() {
        BedFrontier x = kinds();
        eq("no notes", x.is(0), 63);
        x.note(1, HIS, 12, 0, 60);
        eq("none of it", x.is(0), 63);
        eq("no kind costs 60", x.is(1), 0);
        x.note(0, HIS, 12, 0, 4);
        eq("four kinds by day", x.is(0), 1 | 4 | 8 | 32);
        x.note(0, HIS, 12, 0, 0);
        eq("two that do not go together", x.is(0), 0);
        eq("its own kind is nothing to it", x.is(KISS), 0);
    }

    @Holds(promise = 24, says = "of its RATE as it is, in HOUR h of that SIDE's clock (0 .. 23) there was "
            + "paid n (0 .. 60).")
    void noteByThatSidesClock() {
        // {side, hour, war, paid, kinds}, by worth 0 and a rate of 1
        int[][] rows = {{HERS, 21, 0, 1, 1 | 4 | 8}, {HERS, 22, 0, 1, 1 | 4}, {HERS, 22, 0, 3, 8},
            {HERS, 22, 0, 2, 32}, {HERS, 23, 0, 3, 8}, {HERS, 0, 0, 3, 8}, {HERS, 5, 0, 2, 32},
            {HERS, 6, 0, 0, 2 | 16 | 32}, {HIS, 21, 0, 1, 1 | 4 | 8 | 32}, {HIS, 22, 0, 3, 8 | 32},
            {HIS, 23, 0, 3, 8 | 32}, {HIS, 0, 0, 3, 8 | 32}, {HIS, 5, 0, 3, 8 | 32},
            {HIS, 6, 0, 1, 1 | 4 | 8 | 32}, {HIS, 12, 1, 2, 4}, {HIS, 12, 1, 1, 1 | 8 | 32},
            {HIS, 12, 1, 60, 0}};
        for (int[] row : rows) {
            BedFrontier x = one(PLAIN, 0);
            x.note(0, row[0], row[1], row[2], row[3]);
            eq("paid " + row[3] + " in hour " + row[1] + " of side " + row[0], x.is(0), row[4]);
        }
        BedFrontier x = one(PLAIN, 0);
        x.note(0, HERS, 22, 0, 3);
        x.rate(HERS, 2);
        eq("the rate as it is: a lamp's", x.is(0), 32);
        x.rate(HERS, 3);
        eq("the rate as it is: plain or a quarrel", x.is(0), 1 | 4);
        x.rate(HIS, 9);
        eq("of that side", x.is(0), 1 | 4);
    }

    @Holds(promise = 24, says = "IS, as bits. BAD.")
    void isTooSmallTooLarge() {
        BedFrontier none = new BedFrontier();
        bad(none, () -> none.is(0));
        BedFrontier x = kinds();
        range(x, 0, 5, d -> x.is(d));
    }

    @Holds(promise = 25, says = "by which the most of these KINDS for which alike is DUE are fewest; of like "
            + "ones the first; none: no KIND.")
    void lookOfLikeHoursAndNoKind() {
        BedFrontier x = kinds();
        x.waits(13);
        x.war(1);
        taken(x, 0, () -> x.look(PLAIN, HIS));
        taken(x, 0, () -> x.look(PLAIN, HERS));
        // a kiss or a cat: alike in each hour, so the first
        x.note(1, HIS, 12, 0, 0);
        taken(x, 0, () -> x.look(1, HIS));
        // one kind alone
        x.note(2, HERS, 12, 0, 5);
        eq("a lamp", x.is(2), 32);
        taken(x, 0, () -> x.look(2, HERS));
        x.note(3, HIS, 0, 0, 60);
        taken(x, NONE, () -> x.look(3, HIS));
        taken(x, NONE, () -> x.look(3, HERS));
        x.forget();
        taken(x, 0, () -> x.look(3, HIS));
    }

    @Holds(promise = 25, says = "LOOK on a SIDE: the HOUR (its clock), no WAR")
    void lookByNoWarAndForNothing() {
        BedFrontier x = one(QUARREL, 0);
        x.rate(HIS, 2);
        x.war(1);
        x.note(0, HIS, 0, 1, 4);
        eq("quarrel, snoring and lamp", x.is(0), 4 | 8 | 32);
        // in war all three would be alike at night, and hour 6 be the one to look
        taken(x, 0, () -> x.look(0, HIS));
        // where nothing is due by day all six are alike there, at night four
        BedFrontier y = one(PLAIN, 4);
        y.rate(HIS, 0);
        y.rate(HERS, 0);
        taken(y, 0, () -> y.look(0, HIS));
        taken(y, 0, () -> y.look(0, HERS));
    }

    @Holds(promise = 25, says = "LOOK. NONE. BAD.")
    void lookTooSmallTooLarge() {
        BedFrontier none = new BedFrontier();
        bad(none, () -> none.look(0, HIS));
        BedFrontier x = kinds();
        range(x, 0, 5, d -> x.look(d, HIS));
        range(x, 0, 1, s -> x.look(0, s));
        x.note(0, HIS, 0, 0, 60);
        bad(x, () -> x.look(0, 2));
    }

    @Holds(promise = 26, says = "WARS: how much more all DOINGS would be DUE together on a SIDE in WAR than "
            + "without, in that HOUR (his clock; let through or not): it may be below 0.")
    void warsOfNoneAndOfSix() {
        BedFrontier x = new BedFrontier();
        taken(x, 0, () -> x.wars(HIS, 0));
        x.rate(HIS, 9);
        for (int i = 1; i <= 6; i++) {
            x.doing(QUARREL, 20);
            eq("quarrels on his", x.wars(HIS, 23), 13 * i);
            eq("quarrels on hers", x.wars(HERS, 23), 5 * i);
        }
        barBoth(x, ALL);
        taken(x, 78, () -> x.wars(HIS, 0));
        x.war(1);
        taken(x, 78, () -> x.wars(HIS, 0));
        // none but a quarrel costs more or less in war, let through or not
        BedFrontier y = one(PLAIN, 20);
        y.doing(KISS, 20);
        y.doing(SNORING, 20);
        y.doing(CAT, 20);
        y.doing(LAMP, 20);
        barBoth(y, ALL);
        for (int hour = 0; hour < 24; hour++) {
            eq("his " + hour, y.wars(HIS, hour), 0);
            eq("hers " + hour, y.wars(HERS, hour), 0);
        }
    }

    @Holds(promise = 26, says = "WARS (it may be below 0). BAD: -1000.")
    void warsTooSmallTooLarge() {
        BedFrontier x = kinds();
        range(x, 0, 1, -1000, s -> x.wars(s, 0));
        range(x, 0, 23, -1000, hour -> x.wars(HERS, hour));
        BedFrontier none = new BedFrontier();
        range(none, 0, 1, -1000, s -> none.wars(s, 23));
    }

    @Holds(promise = 27, says = "SENTRY: by c of 10 (0 .. 10) each SIDE, apart, BARS this HOUR besides")
    void neverAndAlwaysASentry() {
        BedFrontier x = kinds();
        sentry(x, PLAIN, 0, 1, 1);
        sentry(x, PLAIN, 1, 99, 100);
        sentry(x, PLAIN, 9, 19, 100);
        sentry(x, PLAIN, 10, 0, 1);
        x.bar(HERS, bit(1));
        sentry(x, PLAIN, 0, 1, 1);
        sentry(x, PLAIN, 1, 9, 10);
        sentry(x, PLAIN, 10, 0, 1);
        sentry(x, CAT, 10, 1, 1);
        x.bar(HIS, bit(0));
        sentry(x, PLAIN, 0, 0, 1);
        sentry(x, CAT, 10, 1, 1);
    }

    private void sentry(BedFrontier x, int d, int c, int above, int below) {
        taken(x, 1, () -> x.sentry(d, c));
        fraction("by " + c + " for " + d, x, above, below);
    }

    @Holds(promise = 27, says = "the chance that a DOING is let through somewhere: THE FRACTION.")
    void sentriesAtADaysEnd() {
        BedFrontier x = kinds();
        x.waits(21);
        sentry(x, SNORING, 10, 1, 1);
        x.bar(HIS, bit(21));
        x.bar(HERS, bit(22));
        sentry(x, SNORING, 10, 1, 1);
        sentry(x, PLAIN, 0, 0, 1);
        x.waits(2);
        x.bar(HERS, bit(0));
        sentry(x, SNORING, 10, 1, 1);
        sentry(x, PLAIN, 2, 4, 5);
        x.war(1);
        sentry(x, LAMP, 2, 4, 5);
        sentry(x, LAMP, 10, 0, 1);
        x.waits(1);
        sentry(x, SNORING, 10, 0, 1);
        sentry(x, SNORING, 2, 24, 25);
    }

    @Holds(promise = 27, says = "SENTRY is THE FRACTION: 1. BAD.")
    void sentryTooSmallTooLarge() {
        BedFrontier none = new BedFrontier();
        bad(none, () -> none.sentry(0, 0));
        BedFrontier x = kinds();
        x.child(4);
        bad(x, () -> x.sentry(0, 11));
        bad(x, () -> x.sentry(6, 0));
        fraction("stays", x, 2, 3);
        range(x, 0, 5, d -> x.sentry(d, 3));
        range(x, 0, 10, c -> x.sentry(0, c));
    }

    @Holds(promise = 28, says = "DAYS by a SEED (0 .. 999999), n (0 .. 60): X is SEED at first")
    void seedAndTimesTooSmallTooLarge() {
        BedFrontier x = kinds();
        range(x, 0, 999999, seed -> x.days(seed, 1));
        range(x, 0, 60, n -> x.days(0, n));
        // seed 0: plain his 4; cat hers, toll 3; plain hers 6; kiss hers; quarrel his 4, toll 3; ..
        int[] first = {0, 4, 7, 13, 13, 20, 26};
        // seed 999999: cat his; kiss hers, toll 3; cat hers; lamp hers 7; plain his 4, toll 3; ..
        int[] last = {0, 0, 3, 3, 10, 17, 26};
        for (int n = 0; n < first.length; n++) {
            eq("the first seed, " + n, x.days(0, n), first[n]);
            eq("the last seed, " + n, x.days(999999, n), last[n]);
        }
        eq("the first seed, 60", x.days(0, 60), 280);
        eq("the last seed, 60", x.days(999999, 60), 292);
    }

    @Holds(promise = 28, says = "each time, twice, X becomes X times 1103515245 and 12345, by 2147483648 "
            + "what is left over; X by 65536 (cut), by how many DOINGS, by 2 left over, are a DOING, a SIDE")
    void leftOverOfLargeNumbers() {
        // rates 0 and no toll: the worths alone tell which doings were met
        for (int many = 1; many <= 6; many++) {
            BedFrontier x = new BedFrontier();
            x.house(0);
            x.rate(HIS, 0);
            x.rate(HERS, 5);
            for (int d = 0; d < many; d++) {
                x.doing(PLAIN, 5 * Math.min(d, 4));
            }
            for (int seed : new int[] {0, 1, 65535, 65536, 524288, 999999}) {
                eq("seed " + seed + ", " + many, x.days(seed, 60), met(seed, many));
            }
        }
    }

    private static int met(int seed, int many) {
        java.math.BigInteger x = java.math.BigInteger.valueOf(seed);
        int sum = 0;
        for (int i = 0; i < 60; i++) {
            x = next(x);
            sum += Math.min(x.shiftRight(16).intValueExact() % many, 4);
            x = next(x);
            sum += x.testBit(16) ? 5 : 0;
        }
        return sum;
    }

    private static java.math.BigInteger next(java.math.BigInteger x) {
        java.math.BigInteger grown = x.multiply(java.math.BigInteger.valueOf(1103515245));
        return grown.add(java.math.BigInteger.valueOf(12345)).mod(java.math.BigInteger.ONE.shiftLeft(31));
    }

    @Holds(promise = 28, says = "it is done, if it is let through, else an HOUR is waited: what is paid by "
            + "all")
    void daysOverADaysEnd() {
        BedFrontier x = one(SNORING, 0);
        x.waits(23);
        x.bar(HIS, bit(23));
        x.bar(HERS, bit(2));
        // from seed 0 on: his at 23 passes: 3; hers at 0: 3, toll 1; hers at 1 is barred: waited,
        // still on hers; hers at 2: 3; his at 3: 3, toll 1
        int[] paid = {0, 3, 7, 7, 10, 14};
        for (int n = 0; n < paid.length; n++) {
            eq("paid by " + n, x.days(0, n), paid[n]);
        }
        barBoth(x, ALL);
        x.waits(1);
        // nothing passes ahead of hour 21
        eq("all barred", x.days(0, 20), 0);
        BedFrontier y = one(PLAIN, 20);
        barBoth(y, ALL);
        taken(y, 0, () -> y.days(5, 60));
    }

    @Holds(promise = 28, says = "(NO: no DOINGS)")
    void daysOfNoDoings() {
        BedFrontier x = new BedFrontier();
        no(x, () -> x.days(0, 0));
        no(x, () -> x.days(999999, 60));
        x.doing(KISS, 0);
        taken(x, 0, () -> x.days(0, 0));
        x.house(1);
        no(x, () -> x.days(0, 1));
    }

    @Holds(promise = 28, says = "DAYS. BAD; NO.")
    void daysBadAheadOfNo() {
        BedFrontier x = new BedFrontier();
        bad(x, () -> x.days(1000000, 0));
        bad(x, () -> x.days(-1, 0));
        bad(x, () -> x.days(0, 61));
        bad(x, () -> x.days(0, -1));
    }
}
