/** Promises 1 to 5: what there is at first, and the edges of a house's numbers. */
final class HouseBounds extends Bounds {
    @Holds(promise = 1, says = "As told; no DOINGS.")
    void noDoingsAtFirst() {
        BedFrontier x = new BedFrontier();
        eq("how many", x.count(0), 0);
        bad(x, () -> x.of(0, 0));
        bad(x, () -> x.does(0, HIS));
        taken(x, 0, () -> x.least(NONE));
        no(x, () -> x.days(0, 0));
        eq("no notes", x.count(4), 0);
        eq("nothing to undo", x.count(5), 0);
        eq("no text", x.count(6), 0);
    }

    @Holds(promise = 1, says = "has a RATE (0 .. 9; 1 at first)")
    void ratesAtFirst() {
        BedFrontier x = new BedFrontier();
        eq("his", x.rate(HIS, 9), 1);
        eq("hers", x.rate(HERS, 9), 1);
    }

    @Holds(promise = 1, says = "(bits 0 .. 16777215; none at first)")
    void noHoursBarredAtFirst() {
        BedFrontier x = one(PLAIN, 0);
        for (int hour = 0; hour < 24; hour++) {
            eq("his " + hour, x.due(0, HIS, hour), 1);
            eq("hers " + hour, x.due(0, HERS, hour), 1);
        }
        eq("his bits", x.bar(HIS, ALL), 0);
        eq("her bits", x.bar(HERS, ALL), 0);
    }

    @Holds(promise = 1, says = "WAR or not (not at first).")
    void noWarAtFirst() {
        BedFrontier x = one(QUARREL, 0);
        eq("now", x.now(3), 0);
        eq("a quarrel, not twice", x.due(0, HIS, 12), 1);
        eq("whether there was", x.war(1), 0);
    }

    @Holds(promise = 1, says = "TOLL (0 .. 9; 1 at first).")
    void tollAtFirst() {
        BedFrontier x = one(KISS, 0);
        eq("toll alone", x.does(0, HERS), 1);
    }

    @Holds(promise = 1, says = "They are on a SIDE (0 at first), in an HOUR (0 at first), have PAID (0 at "
            + "first).")
    void sideHourPaidAtFirst() {
        BedFrontier x = new BedFrontier();
        eq("side", x.now(0), 0);
        eq("hour", x.now(1), 0);
        eq("paid", x.now(2), 0);
        BedFrontier y = one(KISS, 0);
        eq("no toll on side 0", y.does(0, HIS), 0);
        eq("hour 1 behind hour 0", y.now(1), 1);
    }

    @Holds(promise = 2, says = "TOLL (0 .. 9; 1 at first).")
    void tollTooSmallTooLarge() {
        BedFrontier x = kinds();
        range(x, 0, 9, n -> x.house(n));
        for (int toll = 0; toll <= 9; toll += 9) {
            x.house(toll);
            x.doing(KISS, 0);
            eq("toll " + toll, x.does(0, HERS), toll);
        }
    }

    @Holds(promise = 2, says = "TOLL, all else as at first (but for IMAGES, THE TEXT, THE FRACTION, STATUS)")
    void houseLeavesImagesTextFractionStatus() {
        BedFrontier x = changed();
        x.image(1);
        Check.typeAll(x, "house 8;");
        x.child(4);
        x.waits(0);
        x.undo();
        x.undo();
        x.undo();
        x.doing(0, 0);
        x.house(1);
        eq("bytes", x.count(6), 8);
        fraction("the fraction", x, 2, 3);
        eq("BAD", x.status(0), 1);
        eq("NO", x.status(1), 1);
        eq("FULL", x.status(2), 1);
        eq("image 1", x.from(1), 1);
        eq("its doings", x.count(0), 6);
        eq("image 0", x.from(0), NO);
        eq("the text as it was", x.read(), 1);
    }

    @Holds(promise = 2, says = "all else as at first")
    void houseTakesAllElse() {
        BedFrontier x = changed();
        x.house(1);
        eq("as a new one", x.digest(), new BedFrontier().digest());
        no(x, () -> x.undo());
        x.doing(CAT, 3);
        eq("the first one's kind", x.of(0, 0), CAT);
        eq("no notes of it", x.is(0), 63);
        bad(x, () -> x.of(1, 0));
    }

    /** A house in which nothing is as at first. */
    private static BedFrontier changed() {
        BedFrontier x = kinds();
        x.bar(HIS, 6);
        x.bar(HERS, ALL - 2);
        x.does(PLAIN, HERS);
        x.war(1);
        x.note(0, 0, 0, 0, 60);
        return x;
    }

    @Holds(promise = 2, says = "how many DOINGS there were. BAD.")
    void houseOverNoneOverSix() {
        BedFrontier x = new BedFrontier();
        taken(x, 0, () -> x.house(5));
        for (int i = 0; i < 6; i++) {
            x.doing(0, 0);
        }
        bad(x, () -> x.house(10));
        bad(x, () -> x.house(-1));
        taken(x, 6, () -> x.house(5));
        taken(x, 0, () -> x.house(5));
        eq("six more come", x.doing(0, 0), 0);
    }

    @Holds(promise = 3, says = "has a RATE (0 .. 9; 1 at first)")
    void rateTooSmallTooLarge() {
        BedFrontier x = one(PLAIN, 0);
        for (int s = 0; s < 2; s++) {
            int side = s;
            range(x, 0, 9, n -> x.rate(side, n));
            eq("9 is due", x.due(0, side, 12), 9);
            taken(x, 9, () -> x.rate(side, 0));
            eq("0 is due", x.due(0, side, 12), 0);
        }
    }

    @Holds(promise = 3, says = "SIDES: 0 his, 1 hers")
    void noThirdSideHasARate() {
        BedFrontier x = new BedFrontier();
        x.rate(HIS, 4);
        x.rate(HERS, 6);
        range(x, 0, 1, s -> x.rate(s, 5));
        eq("his", x.rate(HIS, 1), 5);
        eq("hers", x.rate(HERS, 1), 5);
    }

    @Holds(promise = 3, says = "A RATE: what it was. BAD.")
    void refusedRateStays() {
        BedFrontier x = new BedFrontier();
        taken(x, 1, () -> x.rate(HERS, 7));
        bad(x, () -> x.rate(HERS, 10));
        bad(x, () -> x.rate(2, 10));
        bad(x, () -> x.rate(-1, -1));
        taken(x, 7, () -> x.rate(HERS, 7));
        taken(x, 1, () -> x.rate(HIS, 1));
    }

    @Holds(promise = 4, says = "each BARS some HOURS of its own clock (bits 0 .. 16777215; none at first)")
    void hoursTooSmallTooLarge() {
        BedFrontier x = one(PLAIN, 0);
        for (int s = 0; s < 2; s++) {
            int side = s;
            range(x, 0, ALL, n -> x.bar(side, n));
            eq("all are barred", x.due(0, side, 12), NONE);
        }
    }

    @Holds(promise = 4, says = "of its own clock")
    void firstAndLastBitByEachClock() {
        BedFrontier x = one(PLAIN, 0);
        int[] hours = {0, 1, 22, 23};
        for (int barred : hours) {
            barBoth(x, bit(barred));
            for (int his = 0; his < 24; his++) {
                int hers = his == 23 ? 0 : his + 1;
                eq("his " + his, x.due(0, HIS, his), his == barred ? NONE : 1);
                eq("her " + hers, x.due(0, HERS, his), hers == barred ? NONE : 1);
            }
        }
    }

    @Holds(promise = 4, says = "SIDES: 0 his, 1 hers")
    void noThirdSideBars() {
        BedFrontier x = new BedFrontier();
        range(x, 0, 1, s -> x.bar(s, 5));
    }

    @Holds(promise = 4, says = "HOURS that a SIDE BARS (bits): what it did. BAD.")
    void refusedBarStays() {
        BedFrontier x = new BedFrontier();
        taken(x, 0, () -> x.bar(HIS, ALL));
        bad(x, () -> x.bar(HIS, ALL + 1));
        bad(x, () -> x.bar(HIS, -1));
        bad(x, () -> x.bar(2, 0));
        taken(x, ALL, () -> x.bar(HIS, 0));
        taken(x, 0, () -> x.bar(HIS, 0));
        taken(x, 0, () -> x.bar(HERS, 0));
    }

    @Holds(promise = 5, says = "DOINGS 0 .. 5, as they come")
    void sixDoingsByNumber() {
        BedFrontier x = new BedFrontier();
        for (int i = 0; i < 6; i++) {
            int number = i;
            bad(x, () -> x.of(number, 0));
            taken(x, number, () -> x.doing(5 - number, number));
            eq("kind", x.of(number, 0), 5 - number);
            eq("worth", x.of(number, 1), number);
        }
        bad(x, () -> x.of(6, 0));
    }

    @Holds(promise = 5, says = "a KIND, WORTH (0 .. 20).")
    void worthTooSmallTooLarge() {
        BedFrontier x = new BedFrontier();
        range(x, 0, 20, n -> x.doing(KISS, n));
        eq("two came", x.count(0), 2);
        eq("least", x.of(0, 1), 0);
        eq("highest", x.of(1, 1), 20);
    }

    @Holds(promise = 5, says = "KINDS, each under the one told, say what is DUE for one of WORTH v on a SIDE "
            + "s of RATE r, in HOUR h of that SIDE's clock, in WAR or not; whether it PASSES all the same in "
            + "an HOUR that is BARRED")
    void noSeventhKind() {
        BedFrontier x = new BedFrontier();
        range(x, 0, 5, n -> x.doing(n, 0));
        eq("two came", x.count(0), 2);
        eq("first kind", x.of(0, 0), PLAIN);
        eq("last kind", x.of(1, 0), LAMP);
    }

    @Holds(promise = 5, says = "A DOING: its number. BAD; FULL: 6.")
    void aSeventhDoing() {
        BedFrontier x = kinds();
        full(x, () -> x.doing(0, 0));
        full(x, () -> x.doing(5, 20));
        bad(x, () -> x.doing(6, 0));
        bad(x, () -> x.doing(-1, 0));
        bad(x, () -> x.doing(0, 21));
        bad(x, () -> x.doing(0, -1));
        eq("six", x.count(0), 6);
        x.house(1);
        taken(x, 0, () -> x.doing(0, 0));
    }
}
