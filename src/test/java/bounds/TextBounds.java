/** Promises 6 to 8: THE TEXT, empty and full, and each thing that is a FAULT. */
final class TextBounds extends Bounds {
    private static final String SIX = "doing 0 0;doing 1 1;doing 2 2;doing 3 3;doing 4 4;doing 5 5;";

    /** The house is read, and the text stays. */
    private BedFrontier reads(String text, int items) {
        BedFrontier x = lived();
        Check.typeAll(x, text);
        taken(x, items, () -> x.read());
        eq("'" + text + "' has taken the place", x.now(1), 0);
        eq("'" + text + "' stays", x.count(6), text.length());
        return x;
    }

    /** All stays, what was refused and what may be undone, too. */
    private void fault(String text, int place) {
        BedFrontier x = lived();
        Check.typeAll(x, text);
        long digest = x.digest();
        taken(x, -10 - place, () -> x.read());
        eq("'" + text + "': all stays", x.digest(), digest);
        x.undo();
        eq("'" + text + "': undone", x.now(1), 5);
    }

    private static BedFrontier lived() {
        BedFrontier x = kinds();
        x.bar(HIS, 7);
        x.note(1, 1, 1, 1, 1);
        x.waits(5);
        x.does(LAMP, HERS);
        return x;
    }

    @Holds(promise = 6, says = "A byte (0 .. 127) comes behind THE TEXT: how many it has. BAD; FULL.")
    void byteTooSmallTooLarge() {
        BedFrontier x = new BedFrontier();
        range(x, 0, 127, c -> x.type(c));
        eq("two came", x.count(6), 2);
        taken(x, 3, () -> x.type(64));
    }

    @Holds(promise = 6, says = "THE HOUSE is told by a TEXT (150 bytes at most)")
    void aByteTooMany() {
        BedFrontier x = new BedFrontier();
        for (int n = 1; n < 150; n++) {
            x.type(32);
        }
        taken(x, 150, () -> x.type(32));
        full(x, () -> x.type(32));
        full(x, () -> x.type(0));
        bad(x, () -> x.type(128));
        bad(x, () -> x.type(-1));
        eq("they are 150", x.count(6), 150);
    }

    @Holds(promise = 7, says = "THE TEXT is empty: how many it had.")
    void clearOfNoneOfOneOfAll() {
        BedFrontier x = new BedFrontier();
        taken(x, 0, () -> x.clear());
        x.type(65);
        taken(x, 1, () -> x.clear());
        for (int n = 0; n < 150; n++) {
            x.type(65);
        }
        taken(x, 150, () -> x.clear());
        taken(x, 0, () -> x.clear());
        taken(x, -10, () -> x.read());
        taken(x, 1, () -> x.type(104));
    }

    @Holds(promise = 8, says = "THE HOUSE is told by a TEXT (150 bytes at most) of ITEMS, each ended by ;")
    void textOfAllBytes() {
        StringBuilder wars = new StringBuilder("house 1;");
        while (wars.length() < 144) {
            wars.append("war;");
        }
        reads(wars + " war; ", 36);
        reads(wars + "  war;", 36);
        fault(wars + "   war", 150);
        fault(wars + " bar 1", 150);
        fault(wars + "war; _", 149);
        reads("house 1;", 1);
        fault("house 1", 7);
        fault("house 1;;", 8);
        fault("house 1;war;;war;", 12);
        fault("house 1 war;", 8);
    }

    @Holds(promise = 8, says = "house TOLL (once, first of all)")
    void houseOnceAndFirst() {
        for (int toll = 0; toll <= 9; toll += 9) {
            BedFrontier x = reads("house " + toll + ";doing 1 0;", 2);
            eq("its toll", x.does(0, HERS), toll);
        }
        fault("house 10;", 6);
        fault("house;", 5);
        fault("house 1 1;", 8);
        fault("doing 1 0;house 1;", 0);
        fault("house 1;house 1;", 8);
    }

    @Holds(promise = 8, says = "rate s n")
    void rateItem() {
        BedFrontier x = reads("house 1;rate 0 9;rate 1 0;rate 0 0;rate 0 8;", 5);
        eq("his, the last one told", x.rate(HIS, 1), 8);
        eq("hers", x.rate(HERS, 1), 0);
        fault("house 1;rate 2 0;", 13);
        fault("house 1;rate 0 10;", 15);
        fault("house 1;rate;", 12);
        fault("house 1;rate 0;", 14);
        fault("house 1;rate 0 1 2;", 17);
    }

    @Holds(promise = 8, says = "bar s and HOURS (any; those alone)")
    void barItemOfNoneOfAll() {
        BedFrontier x = reads("house 1;bar 0 0 23 0;bar 1 5;bar 1;", 4);
        eq("his, one of them twice", x.bar(HIS, 0), bit(0) + bit(23));
        eq("hers, none in place of one", x.bar(HERS, 0), 0);
        BedFrontier y = reads("house 1;bar 1 0 1 2 3 4 5 6 7 8 9 10 11 12 13 14 15 16 17 18 19 20 21 22 23;", 2);
        eq("hers, all", y.bar(HERS, 0), ALL);
        eq("his, none told", y.bar(HIS, 0), 0);
        BedFrontier z = reads("house 1;bar 0 7 8;bar 0 8 9;", 3);
        eq("those alone", z.bar(HIS, 0), bit(8) + bit(9));
        fault("house 1;bar 2;", 12);
        fault("house 1;bar;", 11);
        fault("house 1;bar 0 24;", 14);
        fault("house 1;bar 0 23 24;", 17);
        fault("house 1;bar 0 23 war;", 17);
    }

    @Holds(promise = 8, says = "; war; doing KIND WORTH.")
    void warAndDoingItems() {
        BedFrontier x = reads("house 1;war;war;doing 5 20;doing 0 0;", 5);
        eq("war", x.now(3), 1);
        eq("kind", x.of(0, 0), 5);
        eq("worth", x.of(0, 1), 20);
        eq("kind", x.of(1, 0), 0);
        eq("worth", x.of(1, 1), 0);
        eq("no war told", reads("house 1;", 1).now(3), 0);
        fault("house 1;war 1;", 12);
        fault("house 1;doing 6 0;", 14);
        fault("house 1;doing 0 21;", 16);
        fault("house 1;doing 0;", 15);
        fault("house 1;doing;", 13);
        fault("house 1;doing 0 0 0;", 18);
    }

    @Holds(promise = 8, says = "TOKENS: words of letters a .. z")
    void lettersFromAToZ() {
        // a and z may stand in a word, and what lies next to them may not
        fault("house 1;a;", 8);
        fault("house 1;z;", 8);
        fault("house 1;wara;", 8);
        fault("house 1;warz;", 8);
        fault("house 1;war`;", 11);
        fault("house 1;war{;", 11);
        fault("House 1;", 0);
        fault("house 1;waR;", 8);
        fault("house 1;warA;", 11);
    }

    @Holds(promise = 8, says = "figures (1 or 2 are one number)")
    void oneOrTwoFigures() {
        BedFrontier x = reads("house 09;bar 0 1 01 10 00;rate 00 05;doing 05 20;", 4);
        eq("hours", x.bar(HIS, 0), bit(0) + bit(1) + bit(10));
        eq("rate", x.rate(HIS, 0), 5);
        eq("kind", x.of(0, 0), 5);
        eq("toll", x.does(0, HERS), 9 + 1 + 4 + 2 - 1);
        fault("house /;", 6);
        fault("house :;", 6);
        fault("house 1/;", 7);
        fault("house 1:;", 7);
        fault("house 1 0;", 8);
    }

    @Holds(promise = 8, says = "; ; blanks (32) between.")
    void blanksBetween() {
        reads("   house   1   ;   war   ;   ", 2);
        reads("house1;rate1 9;bar0;doing5 20;", 4);
        for (int c : new int[] {0, 9, 10, 13, 31, 33, 127}) {
            fault("house" + (char) c + "1;", 5);
            fault("house 1;" + (char) c, 8);
        }
        fault("hou se 1;", 0);
        fault("house 1;bar 1 2 4 ; wa r;", 20);
    }

    @Holds(promise = 8, says = "FAULT: the place of the first byte of the first TOKEN that can not stand "
            + "there")
    void firstFaultOfMany() {
        fault("house 1;rate 5 99;doing 9 9;", 13);
        fault("house 1;   peace;war", 11);
        fault("x", 0);
        fault("house 1;rate 1 1;bar 1   24 x", 25);
        // far inside the token the fault is its first byte all the same
        fault("house 1;warwarwarwarwar;", 8);
    }

    @Holds(promise = 8, says = "a word that is none")
    void wordThatIsNone() {
        fault("hous 1;", 0);
        fault("houses 1;", 0);
        fault("house 1;wa;", 8);
        fault("house 1;wars;", 8);
        fault("house 1;ba 0;", 8);
        fault("house 1;bars 0;", 8);
        fault("house 1;rat 0 0;", 8);
        fault("house 1;rates 0 0;", 8);
        fault("house 1;doin 0 0;", 8);
        fault("house 1;doings 0 0;", 8);
        fault("house 1;h;", 8);
    }

    @Holds(promise = 8, says = "house again")
    void houseAgain() {
        fault("house 1;house 1;", 8);
        fault("house 1;war;house", 12);
        fault("house house 1;", 6);
    }

    @Holds(promise = 8, says = "anything ahead of it")
    void anythingAheadOfHouse() {
        fault("war;house 1;", 0);
        fault("rate 0 1;house 1;", 0);
        fault("bar 0;house 1;", 0);
        fault("doing 0 0;house 1;", 0);
        fault(" ;house 1;", 1);
        fault("1;house 1;", 0);
        fault("1house 1;", 0);
    }

    @Holds(promise = 8, says = "a 7th doing at its word")
    void aSeventhDoingItem() {
        BedFrontier x = reads("house 1;" + SIX + "war;", 8);
        eq("six", x.count(0), 6);
        full(x, () -> x.doing(0, 0));
        fault("house 1;" + SIX + "doing 0 0;", 68);
        fault("house 1;" + SIX + "  doing 9 9;", 70);
        fault("house 1;" + SIX + "war;doing", 72);
    }

    @Holds(promise = 8, says = "a third figure's number")
    void aThirdFigure() {
        fault("house 001;", 6);
        fault("house 1;rate 000 1;", 13);
        fault("house 1;rate 0 001;", 15);
        fault("house 1;bar 0 1 012;", 16);
        fault("house 1;doing 0 020;", 16);
        fault("house 1;bar 0 0000;", 14);
        fault("house 1;bar 0 4294967297;", 14);
        fault("house 123", 6);
    }

    @Holds(promise = 8, says = "a number not as told")
    void numberNotAsTold() {
        fault("house 10;", 6);
        fault("house 99;", 6);
        fault("house 1;rate 2 1;", 13);
        fault("house 1;rate 1 10;", 15);
        fault("house 1;bar 2 1;", 12);
        fault("house 1;bar 1 24;", 14);
        fault("house 1;doing 6 1;", 14);
        fault("house 1;doing 1 21;", 16);
        // where a number may not stand at all
        fault("house 1;5;", 8);
        fault("house 1;war 5;", 12);
    }

    @Holds(promise = 8, says = "a byte that begins none, too")
    void byteThatBeginsNone() {
        fault("-", 0);
        fault("house -1;", 6);
        fault("house 1;,", 8);
        fault("house 1;war,", 11);
        fault("house 1;bar 0 1,2;", 15);
        fault("house 1;" + (char) 0, 8);
        fault("house 1;" + (char) 127, 8);
    }

    @Holds(promise = 8, says = "the TEXT's length, if it ends too early (an empty one, too).")
    void endsTooEarly() {
        fault("", 0);
        fault(" ", 1);
        fault("     ", 5);
        fault("house", 5);
        fault("house  ", 7);
        fault("house 1", 7);
        fault("house 1;war", 11);
        fault("house 1;rate", 12);
        fault("house 1;rate 0", 14);
        fault("house 1;rate 0 1", 16);
        fault("house 1;bar", 11);
        fault("house 1;bar 0", 13);
        fault("house 1;bar 0 1 2 ", 18);
        fault("house 1;doing", 13);
        fault("house 1;doing 0", 15);
        fault("house 1;doing 0 0", 17);
        reads("house 1;  ", 1);
    }

    @Holds(promise = 8, says = "A HOUSE that is read takes the place of all but IMAGES, THE TEXT, THE "
            + "FRACTION, STATUS")
    void readLeavesImagesTextFractionStatus() {
        BedFrontier x = lived();
        x.image(0);
        x.child(3);
        x.waits(25);
        x.from(1);
        x.doing(0, 0);
        Check.typeAll(x, "house 1;doing 3 4;");
        eq("items", x.read(), 2);
        fraction("the fraction", x, 1, 3);
        eq("BAD", x.status(0), 1);
        eq("NO", x.status(1), 1);
        eq("FULL", x.status(2), 1);
        eq("bytes", x.count(6), 18);
        eq("the same text once more", x.read(), 2);
        eq("one doing, not two", x.count(0), 1);
        eq("image 0", x.from(0), 1);
        eq("its hour", x.now(1), 6);
        eq("its doings", x.count(0), 6);
    }

    @Holds(promise = 8, says = "(SIDE, HOUR, PAID 0, NOTES none; nothing to undo).")
    void readTakesAllElse() {
        BedFrontier x = lived();
        x.war(1);
        Check.typeAll(x, "house 1;");
        eq("items", x.read(), 1);
        for (int what = 0; what <= 5; what++) {
            eq("count " + what, x.count(what), 0);
        }
        no(x, () -> x.undo());
        eq("no war", x.now(3), 0);
        eq("no bytes", x.clear(), 8);
        eq("as a new one", x.digest(), new BedFrontier().digest());
    }

    @Holds(promise = 8, says = "THE HOUSE is read: how many ITEMS. -10 less the FAULT: all stays.")
    void fewestAndMostItems() {
        reads("house 1;", 1);
        StringBuilder most = new StringBuilder("house1;");
        for (int i = 0; i < 35; i++) {
            most.append("war;");
        }
        reads(most.toString(), 36);
        // faults from the first byte of a text to behind the last byte of a full one
        fault("", 0);
        fault(most.substring(0, 143) + " house1", 144);
        fault(most + "war", 150);
    }
}
