/** Promises 15 to 21: the questions about what is due, at their first and last answers. */
final class DueBounds extends Bounds {
    @Holds(promise = 15, says = "======== 2 (Nothing is changed by these.)")
    void questionsChangeNothing() {
        BedFrontier x = kinds();
        x.bar(HERS, 77);
        x.waits(7);
        x.note(0, 0, 0, 0, 4);
        long digest = x.digest();
        for (int d = 0; d < 6; d++) {
            x.due(d, HERS, 23);
            x.both(d, 1);
            x.least(d);
            x.where(d);
            x.bars(d);
            x.is(d);
            x.look(d, HERS);
        }
        x.least(NONE);
        x.before(0, 1, 1, 2);
        x.wars(HERS, 23);
        x.days(999999, 60);
        eq("all as it was", x.digest(), digest);
        x.child(4);
        x.sentry(0, 3);
        x.child(0);
        eq("but for the fraction", x.digest(), digest);
        taken(x, 0, () -> x.undo());
        eq("what may be undone, too", x.now(1), 0);
    }

    @Holds(promise = 15, says = "DUE for a DOING on a SIDE in an HOUR (his clock), WAR as it is; none: it is "
            + "not let through.")
    void dueWhereBarred() {
        BedFrontier x = kinds();
        x.bar(HIS, bit(23));
        x.bar(HERS, bit(23));
        taken(x, NONE, () -> x.due(QUARREL, HIS, 23));
        taken(x, NONE, () -> x.due(QUARREL, HERS, 22));
        taken(x, 4, () -> x.due(QUARREL, HIS, 22));
        taken(x, 6, () -> x.due(QUARREL, HERS, 23));
        x.war(1);
        taken(x, NONE, () -> x.due(QUARREL, HIS, 23));
        taken(x, 8, () -> x.due(QUARREL, HIS, 22));
        taken(x, 12, () -> x.due(QUARREL, HERS, 23));
        taken(x, 0, () -> x.due(CAT, HIS, 23));
    }

    @Holds(promise = 15, says = "23 of a day, by his clock; by hers it is one later (23: 0).")
    void herClockOverTheDaysEnd() {
        BedFrontier x = one(SNORING, 0);
        eq("his 23 is hers 0, at night", x.due(0, HERS, 23), 3);
        eq("his 5 is hers 6, by day", x.due(0, HERS, 5), 1);
        eq("his 21 is hers 22, at night", x.due(0, HERS, 21), 3);
        eq("his 20 is hers 21, by day", x.due(0, HERS, 20), 1);
        x.bar(HERS, bit(0));
        eq("her 0 is barred", x.due(0, HERS, 23), NONE);
        eq("her 1 is not", x.due(0, HERS, 0), 3);
        x.bar(HERS, bit(1));
        eq("her 1 is barred", x.due(0, HERS, 0), NONE);
    }

    @Holds(promise = 15, says = "DUE. NONE. BAD.")
    void dueTooSmallTooLarge() {
        BedFrontier none = new BedFrontier();
        bad(none, () -> none.due(0, 0, 0));
        BedFrontier x = kinds();
        barBoth(x, ALL);
        range(x, 0, 5, d -> x.due(d, HIS, 0));
        range(x, 0, 1, s -> x.due(0, s, 0));
        range(x, 0, 23, hour -> x.due(0, HERS, hour));
    }

    @Holds(promise = 16, says = "BOTH: HOURS (bits; his clock) in which neither SIDE lets a DOING through")
    void noneAllAndTheDaysEnd() {
        BedFrontier x = kinds();
        taken(x, 0, () -> x.both(PLAIN, 0));
        x.bar(HIS, ALL);
        taken(x, 0, () -> x.both(PLAIN, 0));
        x.bar(HERS, bit(0));
        taken(x, bit(23), () -> x.both(PLAIN, 0));
        x.bar(HERS, bit(1));
        taken(x, bit(0), () -> x.both(PLAIN, 0));
        x.bar(HERS, bit(23));
        taken(x, bit(22), () -> x.both(PLAIN, 0));
        x.bar(HERS, ALL);
        taken(x, ALL, () -> x.both(PLAIN, 0));
        taken(x, 0, () -> x.both(CAT, 0));
        // snoring passes on his from 22, on hers from his 21 to his 22
        taken(x, ALL - bit(21) - bit(22) - bit(23), () -> x.both(SNORING, 0));
        x.war(1);
        taken(x, ALL, () -> x.both(LAMP, 0));
    }

    @Holds(promise = 16, says = "the first of these from the HOUR as it is on, over 23 on to 0; none.")
    void firstOverTheDaysEnd() {
        BedFrontier x = kinds();
        taken(x, NONE, () -> x.both(PLAIN, 1));
        x.bar(HIS, ALL);
        x.bar(HERS, bit(5) + bit(6));
        taken(x, 4, () -> x.both(PLAIN, 1));
        x.waits(4);
        taken(x, 4, () -> x.both(PLAIN, 1));
        x.waits(1);
        taken(x, 5, () -> x.both(PLAIN, 1));
        x.waits(1);
        taken(x, 4, () -> x.both(PLAIN, 1));
        x.waits(17);
        taken(x, 4, () -> x.both(PLAIN, 1));
        x.bar(HERS, bit(0));
        taken(x, 23, () -> x.both(PLAIN, 1));
        x.bar(HERS, bit(1));
        taken(x, 0, () -> x.both(PLAIN, 1));
        x.bar(HERS, bit(23));
        taken(x, 22, () -> x.both(PLAIN, 1));
        taken(x, NONE, () -> x.both(CAT, 1));
    }

    @Holds(promise = 16, says = "BOTH: HOURS (0; bits), the first (1; NONE). BAD.")
    void bothTooSmallTooLarge() {
        BedFrontier none = new BedFrontier();
        bad(none, () -> none.both(0, 0));
        BedFrontier x = kinds();
        range(x, 0, 5, d -> x.both(d, 0));
        range(x, 0, 1, what -> x.both(0, what));
    }

    @Holds(promise = 17, says = "LEAST: all DOINGS (each once) are done today")
    void noDoingsAndSix() {
        BedFrontier none = new BedFrontier();
        taken(none, 0, () -> none.least(NONE));
        none.waits(23);
        taken(none, 0, () -> none.least(NONE));
        BedFrontier x = new BedFrontier();
        for (int i = 1; i <= 6; i++) {
            x.doing(PLAIN, 20);
            eq("each once", x.least(NONE), 5 * i);
        }
        x.house(1);
        x.doing(PLAIN, 20);
        eq("one behind six", x.least(NONE), 5);
        eq("its place", x.least(0), 230);
        x.bar(HERS, ALL);
        x.bar(HIS, ALL - bit(3));
        eq("one behind six, long ahead of the day's end", x.least(NONE), 5);
        // 4 on his side for all but kiss and cat, if snoring and lamp are done ahead of 22
        BedFrontier y = kinds();
        eq("one of each kind", y.least(NONE), 16);
        int[] places = {180, 190, 220, 200, 230, 210};
        for (int i = 0; i < 6; i++) {
            eq("the place of " + i, y.least(i), places[i]);
        }
    }

    @Holds(promise = 17, says = "are done today, from the HOUR as it is to 23")
    void todayAlone() {
        BedFrontier x = one(PLAIN, 0);
        x.bar(HERS, ALL);
        x.bar(HIS, ALL - bit(0));
        taken(x, 1, () -> x.least(NONE));
        taken(x, 0, () -> x.least(0));
        x.waits(1);
        taken(x, NONE, () -> x.least(NONE));
        x.bar(HIS, ALL - bit(1));
        taken(x, 10, () -> x.least(0));
        x.bar(HIS, ALL - bit(23));
        taken(x, 230, () -> x.least(0));
        x.waits(22);
        taken(x, 230, () -> x.least(0));
        x.bar(HIS, ALL);
        x.bar(HERS, ALL - bit(0));
        taken(x, 2, () -> x.least(NONE));
        taken(x, 231, () -> x.least(0));
        x.bar(HERS, ALL - bit(1));
        taken(x, NONE, () -> x.least(NONE));
    }

    @Holds(promise = 17, says = "one in an HOUR at most (waiting costs nothing)")
    void justEnoughHours() {
        BedFrontier x = new BedFrontier();
        for (int i = 0; i < 6; i++) {
            x.doing(KISS, i);
        }
        x.waits(18);
        taken(x, 0, () -> x.least(NONE));
        for (int i = 0; i < 6; i++) {
            eq("one in each hour", x.least(i), 10 * (18 + i));
        }
        x.waits(1);
        taken(x, NONE, () -> x.least(NONE));
        BedFrontier y = one(PLAIN, 0);
        y.doing(PLAIN, 0);
        barBoth(y, ALL);
        y.bar(HIS, ALL - bit(3));
        y.bar(HERS, ALL - bit(4));
        taken(y, NONE, () -> y.least(NONE));
        y.bar(HERS, ALL - bit(23));
        taken(y, 3, () -> y.least(NONE));
        eq("in hour 3", y.least(0), 30);
        eq("in hour 22", y.least(1), 221);
    }

    @Holds(promise = 17, says = "on either SIDE: the least that is paid together, TOLLS too")
    void tollsDecide() {
        int[][] ways = {{0, 1, 231}, {1, 2, 231}, {2, 3, 230}, {9, 3, 230}};
        for (int[] way : ways) {
            BedFrontier x = new BedFrontier();
            x.house(way[0]);
            x.rate(HIS, 3);
            x.doing(PLAIN, 0);
            eq("toll " + way[0], x.least(NONE), way[1]);
            eq("toll " + way[0] + ", where", x.least(0), way[2]);
        }
        // they are on hers: it is the way to his that costs
        BedFrontier y = new BedFrontier();
        y.house(3);
        y.rate(HERS, 2);
        y.doing(PLAIN, 0);
        y.does(0, HERS);
        eq("2 there, 1 and 3 for the way to his", y.least(NONE), 2);
        y.rate(HERS, 4);
        eq("alike", y.least(NONE), 4);
        eq("alike: his", y.least(0), 230);
        BedFrontier z = new BedFrontier();
        z.house(2);
        z.doing(PLAIN, 0);
        z.doing(PLAIN, 0);
        z.bar(HIS, ALL - bit(10));
        z.bar(HERS, ALL - bit(9) - bit(13));
        eq("hers at 12 behind his at 10: one toll", z.least(NONE), 4);
        eq("first", z.least(0), 100);
        eq("second", z.least(1), 121);
    }

    @Holds(promise = 17, says = "the i-th DOING's HOUR, SIDE in the first such way (HOUR by HOUR: waiting "
            + "ahead of all, then DOINGS rising, each on SIDE 0 ahead of 1)")
    void firstOfLikeWays() {
        BedFrontier x = new BedFrontier();
        x.house(0);
        x.doing(KISS, 0);
        eq("waits as long as may be, his", x.least(0), 230);
        x.bar(HIS, bit(23));
        eq("waiting is ahead of his side", x.least(0), 231);
        x.doing(CAT, 0);
        eq("rising, his ahead", x.least(0), 220);
        eq("behind it", x.least(1), 230);
        x.bar(HIS, bit(22));
        eq("a lower doing on hers is ahead of a higher one on his", x.least(0), 221);
        eq("behind it", x.least(1), 230);
        x.bar(HERS, bit(23));
        eq("barred on both: the cat first", x.least(1), 220);
        eq("the kiss behind it", x.least(0), 230);
    }

    @Holds(promise = 17, says = "10 HOUR and SIDE; none.")
    void firstAndLastPlace() {
        BedFrontier x = one(PLAIN, 0);
        barBoth(x, ALL);
        taken(x, NONE, () -> x.least(NONE));
        x.bar(HIS, ALL - bit(0));
        taken(x, 0, () -> x.least(0));
        x.bar(HIS, ALL);
        x.bar(HERS, ALL - bit(1));
        taken(x, 1, () -> x.least(0));
        x.bar(HERS, ALL - bit(0));
        taken(x, 231, () -> x.least(0));
    }

    @Holds(promise = 17, says = "LEAST: how much (i = NONE), the i-th DOING's 10 HOUR and SIDE. NONE: none "
            + "(whatever i is).")
    void noneWhateverIIs() {
        BedFrontier x = kinds();
        x.waits(19);
        for (int i = -1; i < 6; i++) {
            int asked = i;
            taken(x, NONE, () -> x.least(asked));
        }
        // one alone that may be done nowhere is enough
        BedFrontier y = one(CAT, 0);
        y.doing(KISS, 0);
        barBoth(y, ALL);
        for (int i = -1; i < 2; i++) {
            int asked = i;
            taken(y, NONE, () -> y.least(asked));
        }
    }

    @Holds(promise = 17, says = "BAD: -10: no such DOING, too.")
    void leastTooSmallTooLarge() {
        BedFrontier none = new BedFrontier();
        range(none, -1, -1, -10, i -> none.least(i));
        BedFrontier x = kinds();
        range(x, -1, 5, -10, i -> x.least(i));
        BedFrontier y = one(KISS, 0);
        range(y, -1, 0, -10, i -> y.least(i));
        // BAD is the first of what is refused, where there is no way, too
        barBoth(y, ALL);
        range(y, -1, 0, -10, i -> y.least(i));
    }

    @Holds(promise = 18, says = "BEFORE: something was on SIDE s in HOUR x of its clock, another one on SIDE "
            + "t in HOUR y of its: 1, if the first is earlier by his clock, 0 at once, 2 later.")
    void firstAndLastHourOfBothClocks() {
        BedFrontier x = new BedFrontier();
        int[][] rows = {{0, 0, 0, 0, 0}, {0, 0, 0, 23, 1}, {0, 23, 0, 0, 2}, {0, 23, 0, 23, 0},
            {1, 0, 0, 23, 0}, {0, 23, 1, 0, 0}, {1, 0, 0, 22, 2}, {0, 22, 1, 0, 1}, {1, 1, 0, 0, 0},
            {0, 0, 1, 1, 0}, {0, 0, 1, 0, 1}, {1, 0, 0, 0, 2}, {1, 0, 1, 1, 2}, {1, 1, 1, 0, 1},
            {1, 23, 1, 0, 1}, {1, 0, 1, 23, 2}, {1, 0, 1, 0, 0}, {1, 23, 0, 22, 0}, {1, 23, 0, 23, 1},
            {0, 1, 1, 1, 2}, {0, 1, 1, 3, 1}, {1, 2, 0, 0, 2}};
        for (int[] row : rows) {
            taken(x, row[4], () -> x.before(row[0], row[1], row[2], row[3]));
        }
    }

    @Holds(promise = 18, says = "BEFORE. BAD.")
    void beforeTooSmallTooLarge() {
        BedFrontier x = new BedFrontier();
        range(x, 0, 1, n -> x.before(n, 0, 0, 0));
        range(x, 0, 23, n -> x.before(0, n, 0, 0));
        range(x, 0, 1, n -> x.before(0, 0, n, 0));
        range(x, 0, 23, n -> x.before(0, 0, 0, n));
    }

    @Holds(promise = 19, says = "CHILD: it lies over CELLS 0 .. 9 (5 on are hers), 3 CELLS long from c (0 .. "
            + "7)")
    void childOverTheLine() {
        BedFrontier x = new BedFrontier();
        int[][] parts = {{0, 1}, {0, 1}, {0, 1}, {1, 3}, {2, 3}, {1, 1}, {1, 1}, {1, 1}};
        for (int c = 0; c <= 7; c++) {
            int cell = c;
            taken(x, 1, () -> x.child(cell));
            fraction("from " + c, x, parts[c][0], parts[c][1]);
        }
    }

    @Holds(promise = 19, says = "CHILD is THE FRACTION: 1. BAD.")
    void childTooSmallTooLarge() {
        BedFrontier x = new BedFrontier();
        x.child(4);
        range(x, 0, 7, c -> x.child(c));
        x.child(4);
        bad(x, () -> x.child(8));
        bad(x, () -> x.child(-1));
        fraction("stays", x, 2, 3);
    }

    @Holds(promise = 20, says = "WHERE: c by which the CELLS of the CHILD on each SIDE, times what is DUE "
            + "for a DOING there in this HOUR (99 where it is not let through)")
    void whereItIsNotLetThrough() {
        BedFrontier x = one(QUARREL, 20);
        x.rate(HIS, 9);
        x.war(1);
        // 26 is the most that can be due, and less than 99
        x.bar(HERS, bit(1));
        eq("his 26, hers not let through", x.where(0), 0);
        x.bar(HERS, 0);
        x.bar(HIS, bit(0));
        x.rate(HERS, 9);
        eq("hers 26, his not let through", x.where(0), 5);
        x.bar(HERS, bit(1));
        eq("neither", x.where(0), 0);
        x.waits(23);
        x.bar(HIS, bit(23));
        eq("his 23 barred", x.where(0), 5);
        x.bar(HERS, bit(0));
        eq("her 0 barred, too", x.where(0), 0);
    }

    @Holds(promise = 20, says = "are least together; of like ones the least.")
    void whereOfLikeOnes() {
        BedFrontier x = one(PLAIN, 0);
        eq("alike on both", x.where(0), 0);
        x.rate(HERS, 0);
        eq("hers alone from 5 on", x.where(0), 5);
        x.rate(HERS, 2);
        eq("his alone from 0 on", x.where(0), 0);
        x.rate(HIS, 9);
        x.rate(HERS, 8);
        eq("hers by one", x.where(0), 5);
        x.rate(HIS, 8);
        x.rate(HERS, 9);
        eq("his by one", x.where(0), 0);
        x.rate(HIS, 0);
        x.rate(HERS, 0);
        eq("nothing on both", x.where(0), 0);
    }

    @Holds(promise = 20, says = "WHERE. BAD.")
    void whereTooSmallTooLarge() {
        BedFrontier none = new BedFrontier();
        bad(none, () -> none.where(0));
        BedFrontier x = kinds();
        range(x, 0, 5, d -> x.where(d));
    }

    @Holds(promise = 21, says = "for which least is DUE (no TOLL; of like ones SIDE 0; neither: nowhere)")
    void barsOfLikeOnesAndNowhere() {
        BedFrontier x = new BedFrontier();
        x.house(9);
        x.doing(PLAIN, 0);
        eq("alike: his", x.bars(0), 1 | 4);
        x.does(0, HERS);
        eq("alike: his, though they are on hers", x.bars(0), 1 | 4);
        x.rate(HIS, 2);
        eq("hers by one", x.bars(0), 1 | 2);
        x.rate(HIS, 1);
        x.rate(HERS, 2);
        eq("his by one", x.bars(0), 1 | 4);
        // for nothing on one side: of all pairs only both barring, and so nowhere, can be bettered
        x.rate(HERS, 0);
        eq("hers for nothing", x.bars(0), 1 | 2 | 4);
        x.rate(HIS, 0);
        x.rate(HERS, 1);
        eq("his for nothing", x.bars(0), 1 | 2 | 4);
        x.rate(HERS, 0);
        eq("nothing to be had", x.bars(0), 15);
    }

    @Holds(promise = 21, says = "that SIDE has what is DUE, the other one 0: pairs that rest (bits: 0 "
            + "neither bars, 1 SIDE 0, 2 SIDE 1, 3 both, whatever they bar now; neither would have more by "
            + "doing otherwise)")
    void barsWhateverTheyBarNow() {
        BedFrontier x = kinds();
        for (int his = 0; his <= ALL; his += ALL) {
            for (int hers = 0; hers <= ALL; hers += ALL) {
                x.bar(HIS, his);
                x.bar(HERS, hers);
                eq("plain", x.bars(PLAIN), 1 | 4);
                eq("kiss", x.bars(KISS), 15);
                eq("cat", x.bars(CAT), 15);
            }
        }
    }

    @Holds(promise = 21, says = "BARS: either SIDE may BAR this HOUR or not")
    void barsWhereItPassesAtADaysEnd() {
        BedFrontier x = kinds();
        x.waits(21);
        // his 4 by day may be barred; hers 8 passes in her 22
        eq("hers passes", x.bars(SNORING), 1 | 4);
        x.rate(HERS, 0);
        x.rate(HIS, 5);
        // his 7, hers 4, which passes: hers whatever they do
        eq("hers passes and is cheaper", x.bars(SNORING), 15);
        x.waits(1);
        eq("both pass", x.bars(SNORING), 15);
        x.waits(1);
        // his passes, her 0 does not: his 9, hers 4
        eq("his passes, hers does not", x.bars(SNORING), 1 | 2);
        x.rate(HERS, 9);
        eq("his passes and is cheaper", x.bars(SNORING), 15);
        x.waits(1);
        eq("neither passes from 0", x.bars(SNORING), 1 | 4);
        x.waits(22);
        x.war(1);
        eq("a lamp does not pass in war", x.bars(LAMP), 1 | 4);
        x.war(0);
        eq("else it does", x.bars(LAMP), 15);
    }

    @Holds(promise = 21, says = "BARS, as bits. BAD.")
    void barsTooSmallTooLarge() {
        BedFrontier none = new BedFrontier();
        bad(none, () -> none.bars(0));
        BedFrontier x = kinds();
        range(x, 0, 5, d -> x.bars(d));
    }
}
