/** The six kinds, by promise 15: where a due begins, ends, is cut, and who passes when. */
final class KindBounds extends Bounds {
    /** What is due for doing 0 in each hour of that side's own clock. */
    private void due(String what, BedFrontier x, int s, int hour, int want) {
        int his = s == HIS ? hour : hour == 0 ? 23 : hour - 1;
        eq(what + " in hour " + hour + " of side " + s, x.due(0, s, his), want);
    }

    private void neverPasses(BedFrontier x) {
        barBoth(x, ALL);
        for (int war = 0; war <= 1; war++) {
            x.war(war);
            for (int hour = 0; hour < 24; hour++) {
                due("barred", x, HIS, hour, NONE);
                due("barred", x, HERS, hour, NONE);
            }
        }
    }

    @Holds(promise = 15, says = "0 PLAIN: r and v by 5 (cut); never.")
    void plainIsCut() {
        int[][] worths = {{0, 0}, {4, 0}, {5, 1}, {9, 1}, {10, 2}, {14, 2}, {15, 3}, {19, 3}, {20, 4}};
        for (int[] worth : worths) {
            BedFrontier x = one(PLAIN, worth[0]);
            x.rate(HIS, 0);
            x.rate(HERS, 9);
            due("worth " + worth[0], x, HIS, 0, worth[1]);
            due("worth " + worth[0], x, HERS, 23, 9 + worth[1]);
            x.war(1);
            due("in war", x, HERS, 0, 9 + worth[1]);
        }
    }

    @Holds(promise = 15, says = "r and v by 5 (cut); never.")
    void plainNeverPasses() {
        neverPasses(one(PLAIN, 20));
    }

    @Holds(promise = 15, says = "1 KISS (under PLAIN): 0; as PLAIN.")
    void kissIsForNothing() {
        BedFrontier x = one(KISS, 20);
        x.rate(HIS, 9);
        for (int hour = 0; hour < 24; hour++) {
            due("kiss", x, HIS, hour, 0);
            due("kiss", x, HERS, hour, 0);
        }
        neverPasses(x);
    }

    @Holds(promise = 15, says = "2 QUARREL (under PLAIN): as PLAIN, twice in WAR; as PLAIN.")
    void quarrelTwiceInWar() {
        BedFrontier x = one(QUARREL, 20);
        x.rate(HIS, 9);
        x.rate(HERS, 0);
        due("no war", x, HIS, 0, 13);
        due("no war", x, HERS, 22, 4);
        x.war(1);
        due("war, the most of all", x, HIS, 0, 26);
        due("war", x, HERS, 22, 8);
        neverPasses(x);
        BedFrontier y = one(QUARREL, 4);
        y.rate(HIS, 0);
        y.war(1);
        due("twice 0", y, HIS, 12, 0);
    }

    @Holds(promise = 15, says = "3 SNORING (under PLAIN): as PLAIN, 2 more from HOUR 22 on and ahead of HOUR "
            + "6; from HOUR 22 on.")
    void snoringFrom22AndAheadOf6() {
        BedFrontier x = one(SNORING, 4);
        for (int s = 0; s < 2; s++) {
            due("ahead of 22", x, s, 21, 1);
            due("from 22", x, s, 22, 3);
            due("last hour", x, s, 23, 3);
            due("first hour", x, s, 0, 3);
            due("ahead of 6", x, s, 5, 3);
            due("from 6", x, s, 6, 1);
            due("noon", x, s, 12, 1);
        }
        x.war(1);
        due("no more in war", x, HIS, 22, 3);
    }

    @Holds(promise = 15, says = "ahead of HOUR 6; from HOUR 22 on.")
    void snoringPassesFrom22() {
        BedFrontier x = one(SNORING, 4);
        barBoth(x, ALL);
        for (int war = 0; war <= 1; war++) {
            x.war(war);
            for (int s = 0; s < 2; s++) {
                due("ahead of 22", x, s, 21, NONE);
                due("from 22", x, s, 22, 3);
                due("last hour", x, s, 23, 3);
                due("no more from 0", x, s, 0, NONE);
                due("ahead of 6", x, s, 5, NONE);
            }
        }
    }

    @Holds(promise = 15, says = "4 CAT (under KISS): as KISS; always.")
    void catAlwaysPasses() {
        BedFrontier x = one(CAT, 20);
        x.rate(HIS, 9);
        for (int war = 0; war <= 1; war++) {
            x.war(war);
            for (int barred = 0; barred <= ALL; barred += ALL) {
                barBoth(x, barred);
                for (int hour = 0; hour < 24; hour++) {
                    due("cat", x, HIS, hour, 0);
                    due("cat", x, HERS, hour, 0);
                }
            }
        }
    }

    @Holds(promise = 15, says = "5 LAMP (under SNORING): 1 less than SNORING on SIDE 1, 0 at least, else as "
            + "SNORING")
    void lampIsNotBelowNothing() {
        BedFrontier x = one(LAMP, 4);
        x.rate(HIS, 0);
        x.rate(HERS, 0);
        due("0 less 1", x, HERS, 12, 0);
        due("0 less 1", x, HERS, 6, 0);
        due("0 less 1", x, HERS, 21, 0);
        due("2 less 1", x, HERS, 5, 1);
        due("2 less 1", x, HERS, 22, 1);
        due("his", x, HIS, 12, 0);
        due("his at night", x, HIS, 22, 2);
        x.rate(HERS, 1);
        due("1 less 1", x, HERS, 12, 0);
        x.rate(HERS, 2);
        due("2 less 1", x, HERS, 12, 1);
        x.war(1);
        due("2 less 1 in war", x, HERS, 12, 1);
        BedFrontier y = one(LAMP, 20);
        due("his is no less", y, HIS, 12, 5);
        due("hers is", y, HERS, 12, 4);
    }

    @Holds(promise = 15, says = "as SNORING, but never in WAR.")
    void lampNeverPassesInWar() {
        BedFrontier x = one(LAMP, 0);
        barBoth(x, ALL);
        due("ahead of 22", x, HIS, 21, NONE);
        due("from 22", x, HIS, 22, 3);
        due("last hour", x, HIS, 23, 3);
        due("no more from 0", x, HIS, 0, NONE);
        due("ahead of 22", x, HERS, 21, NONE);
        due("from 22", x, HERS, 22, 2);
        due("last hour", x, HERS, 23, 2);
        due("no more from 0", x, HERS, 0, NONE);
        neverPassesInWar(x);
    }

    private void neverPassesInWar(BedFrontier x) {
        x.war(1);
        for (int hour = 0; hour < 24; hour++) {
            due("in war", x, HIS, hour, NONE);
            due("in war", x, HERS, hour, NONE);
        }
    }
}
