/** Promises 9 to 14: what is done, waited, told and undone, at a day's end and where it is refused. */
final class HoursBounds extends Bounds {
    @Holds(promise = 9, says = "DOING one on a SIDE in the HOUR that is: TOLL is paid, if they were on the "
            + "other SIDE (then they are on this one), and what is DUE")
    void tollOnTheOtherSideAlone() {
        BedFrontier x = kinds();
        eq("his, none", x.does(PLAIN, HIS), 4);
        eq("over to hers", x.does(PLAIN, HERS), 6 + 3);
        eq("then on this one", x.now(0), HERS);
        eq("no toll there", x.does(PLAIN, HERS), 6);
        eq("back to his", x.does(PLAIN, HIS), 4 + 3);
        eq("on his", x.now(0), HIS);
        eq("paid", x.now(2), 4 + 9 + 6 + 7);
    }

    @Holds(promise = 9, says = "the HOUR is one more (23: 0; a new day).")
    void aDoingInTheLastHour() {
        BedFrontier x = kinds();
        x.waits(22);
        x.does(PLAIN, HIS);
        eq("22 and one more", x.now(1), 23);
        x.does(PLAIN, HIS);
        eq("a new day", x.now(1), 0);
        eq("paid goes on over it", x.now(2), 8);
        x.does(PLAIN, HIS);
        eq("0 and one more", x.now(1), 1);
    }

    @Holds(promise = 9, says = "One is let through on a SIDE in an HOUR that it does not BAR, or if it "
            + "PASSES all the same.")
    void letThroughOrNot() {
        BedFrontier x = kinds();
        x.bar(HIS, bit(0));
        no(x, () -> x.does(PLAIN, HIS));
        taken(x, 0, () -> x.does(CAT, HIS));
        taken(x, 4, () -> x.does(PLAIN, HIS));
        x.bar(HERS, bit(3));
        no(x, () -> x.does(KISS, HERS));
        taken(x, 3, () -> x.does(CAT, HERS));
        taken(x, 0, () -> x.does(KISS, HERS));
    }

    @Holds(promise = 9, says = "A DOING is DONE on a SIDE: what is paid, TOLL too. BAD; NO: it is not let "
            + "through.")
    void doesRefused() {
        BedFrontier none = new BedFrontier();
        bad(none, () -> none.does(0, HIS));
        BedFrontier x = kinds();
        x.waits(1);
        range(x, 0, 5, d -> x.does(d, HIS));
        range(x, 0, 1, s -> x.does(KISS, s));
        barBoth(x, ALL);
        no(x, () -> x.does(PLAIN, HIS));
        no(x, () -> x.does(PLAIN, HERS));
        bad(x, () -> x.does(6, HIS));
        bad(x, () -> x.does(PLAIN, 2));
        eq("as much may be undone", x.count(5), 5);
    }

    @Holds(promise = 9, says = "NO: it is not let through")
    void refusedDoingTakesNoHourNorToll() {
        BedFrontier x = kinds();
        x.bar(HERS, bit(1));
        no(x, () -> x.does(PLAIN, HERS));
        eq("side", x.now(0), HIS);
        eq("hour", x.now(1), 0);
        eq("paid", x.now(2), 0);
        no(x, () -> x.undo());
    }

    @Holds(promise = 10, says = "n (1 .. 24) HOURS are waited (together one that may be undone): the HOUR. "
            + "BAD.")
    void waitsTooSmallTooLarge() {
        BedFrontier x = new BedFrontier();
        range(x, 1, 24, n -> x.waits(n));
        eq("one and a day", x.now(1), 1);
        eq("each is one to undo", x.count(5), 2);
        bad(x, () -> x.waits(0));
        bad(x, () -> x.waits(25));
        bad(x, () -> x.waits(-1));
    }

    @Holds(promise = 10, says = "(together one that may be undone)")
    void waitedTogetherUndoneTogether() {
        BedFrontier x = new BedFrontier();
        x.waits(3);
        taken(x, 2, () -> x.waits(23));
        eq("two to undo", x.count(5), 2);
        x.undo();
        eq("all 23 undone", x.now(1), 3);
        taken(x, 3, () -> x.waits(24));
        x.undo();
        x.undo();
        eq("at first", x.now(1), 0);
        no(x, () -> x.undo());
    }

    @Holds(promise = 10, says = "23 of a day, by his clock; by hers it is one later (23: 0).")
    void waitsOverADaysEnd() {
        BedFrontier x = new BedFrontier();
        taken(x, 23, () -> x.waits(23));
        taken(x, 0, () -> x.waits(1));
        taken(x, 0, () -> x.waits(24));
        x.waits(23);
        taken(x, 23, () -> x.waits(24));
        taken(x, 22, () -> x.waits(23));
        taken(x, 0, () -> x.waits(2));
    }

    @Holds(promise = 11, says = "WAR (1, 0): whether there was. BAD.")
    void warTooSmallTooLarge() {
        BedFrontier x = new BedFrontier();
        range(x, 0, 1, n -> x.war(n));
        taken(x, 1, () -> x.war(1));
        bad(x, () -> x.war(2));
        bad(x, () -> x.war(-1));
        taken(x, 1, () -> x.war(0));
        taken(x, 0, () -> x.war(0));
        eq("each one told may be undone", x.count(5), 5);
    }

    @Holds(promise = 12, says = "UNDO: SIDE, HOUR, PAID, WAR as ahead of the last one DONE, HOUR waited, WAR "
            + "told")
    void undoOfEach() {
        BedFrontier x = kinds();
        x.war(1);
        x.does(QUARREL, HERS);
        x.waits(24);
        x.war(0);
        x.war(0);
        now(x, HERS, 1, 15, 0);
        taken(x, 15, () -> x.undo());
        now(x, HERS, 1, 15, 0);
        taken(x, 15, () -> x.undo());
        now(x, HERS, 1, 15, 1);
        taken(x, 15, () -> x.undo());
        now(x, HERS, 1, 15, 1);
        taken(x, 0, () -> x.undo());
        now(x, HIS, 0, 0, 1);
        taken(x, 0, () -> x.undo());
        now(x, HIS, 0, 0, 0);
        no(x, () -> x.undo());
    }

    private void now(BedFrontier x, int side, int hour, int paid, int war) {
        eq("side", x.now(0), side);
        eq("hour", x.now(1), hour);
        eq("paid", x.now(2), paid);
        eq("war", x.now(3), war);
    }

    @Holds(promise = 12, says = "SIDE, HOUR, PAID, WAR as ahead of the last one DONE")
    void undoOfADoingOverADaysEnd() {
        BedFrontier x = kinds();
        x.waits(23);
        x.does(PLAIN, HERS);
        now(x, HERS, 0, 9, 0);
        taken(x, 0, () -> x.undo());
        now(x, HIS, 23, 0, 0);
        taken(x, 9, () -> x.does(PLAIN, HERS));
    }

    @Holds(promise = 12, says = "SIDE, HOUR, PAID, WAR as ahead of")
    void undoLeavesAllElse() {
        BedFrontier x = kinds();
        x.waits(1);
        x.rate(HIS, 9);
        x.bar(HERS, 3);
        x.note(0, 0, 0, 0, 5);
        x.type(65);
        x.child(5);
        x.undo();
        eq("rate", x.rate(HIS, 9), 9);
        eq("bars", x.bar(HERS, 3), 3);
        eq("notes", x.count(4), 1);
        eq("doings", x.count(0), 6);
        eq("bytes", x.count(6), 1);
        fraction("the fraction", x, 1, 1);
    }

    @Holds(promise = 12, says = "(8 at most; behind a DOING that comes none may be)")
    void eightMayBeUndone() {
        BedFrontier x = kinds();
        for (int i = 1; i <= 8; i++) {
            x.waits(1);
            eq("may be undone", x.count(5), i);
        }
        x.does(PLAIN, HERS);
        eq("a ninth", x.count(5), 8);
        x.war(1);
        eq("a tenth", x.count(5), 8);
        for (int i = 7; i >= 0; i--) {
            x.undo();
            eq("may be undone", x.count(5), i);
        }
        now(x, HIS, 2, 0, 0);
        no(x, () -> x.undo());
        now(x, HIS, 2, 0, 0);
        // each of the eight is kept whole when older ones fall out
        for (int i = 0; i < 12; i++) {
            x.war(1 - i % 2);
        }
        for (int i = 11; i >= 4; i--) {
            x.undo();
            now(x, HIS, 2, 0, i % 2);
        }
        no(x, () -> x.undo());
    }

    @Holds(promise = 12, says = "behind a DOING that comes none may be")
    void noneBehindADoingThatComes() {
        BedFrontier x = new BedFrontier();
        x.waits(1);
        x.war(1);
        x.doing(PLAIN, 0);
        eq("none", x.count(5), 0);
        no(x, () -> x.undo());
        now(x, HIS, 1, 0, 1);
        x.waits(1);
        bad(x, () -> x.doing(6, 0));
        eq("one that is refused takes none", x.count(5), 1);
        for (int i = 0; i < 5; i++) {
            x.doing(PLAIN, 0);
        }
        x.waits(1);
        full(x, () -> x.doing(PLAIN, 0));
        taken(x, 0, () -> x.undo());
        eq("undone", x.now(1), 2);
    }

    @Holds(promise = 12, says = "UNDO: PAID then. NO: none may be.")
    void undoOfNone() {
        BedFrontier x = new BedFrontier();
        no(x, () -> x.undo());
        bad(x, () -> x.waits(0));
        bad(x, () -> x.war(2));
        bad(x, () -> x.does(0, 0));
        no(x, () -> x.undo());
        x.doing(PLAIN, 20);
        x.does(0, HIS);
        x.does(0, HIS);
        taken(x, 5, () -> x.undo());
        taken(x, 0, () -> x.undo());
        no(x, () -> x.undo());
    }

    @Holds(promise = 13, says = "Of a DOING: KIND (0), WORTH (1). BAD.")
    void ofTooSmallTooLarge() {
        BedFrontier none = new BedFrontier();
        bad(none, () -> none.of(0, 0));
        bad(none, () -> none.of(-1, 1));
        BedFrontier x = kinds();
        range(x, 0, 5, d -> x.of(d, 0));
        range(x, 0, 1, what -> x.of(5, what));
        taken(x, 5, () -> x.of(5, 0));
        taken(x, 10, () -> x.of(5, 1));
    }

    @Holds(promise = 14, says = "The SIDE (0), HOUR (1), PAID (2), WAR (3; 1, 0). BAD.")
    void nowTooSmallTooLarge() {
        BedFrontier x = kinds();
        x.waits(23);
        x.war(1);
        range(x, 0, 3, what -> x.now(what));
        now(x, HIS, 23, 0, 1);
        x.does(PLAIN, HERS);
        x.war(0);
        now(x, HERS, 0, 9, 0);
    }
}
