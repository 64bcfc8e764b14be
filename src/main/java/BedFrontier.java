/**
 * Customs of a double bed that a frontier runs through: see README.md for its use.
 *
 * The face below looks at every argument and counts what it refuses; the classes inside it
 * only ever see arguments that are as told.
 */
public final class BedFrontier {
    public static final int NONE = -1, BAD = -2, NO = -3, FULL = -4;

    private static final int SIDES = 2;
    private static final int HOURS = 24;
    private static final int EVERY_HOUR_BARRED = 16777215;
    private static final int KINDS = 6;
    private static final int MOST_DOINGS = 6;
    private static final int MOST_WORTH = 20;
    private static final int MOST_RATE = 9;
    private static final int MOST_TOLL = 9;
    private static final int MOST_NOTES = 6;
    private static final int MOST_NOTED = 60;
    private static final int NOTE_WIDTH = 5;
    private static final int MOST_STEPS = 8;
    private static final int STEP_WIDTH = 4;
    private static final int MOST_BYTES = 150;
    private static final int IMAGES = 2;
    private static final int LAST_CHILD_CELL = 7;
    private static final int MOST_SEED = 999999;
    private static final int MOST_DAYS = 60;

    private final House home;
    private final Reader reader;
    private final Clerk clerk;
    private final House[] images;
    private Planner planner;
    private int above;
    private int below;
    private int bads;
    private int noes;
    private int fulls;

    public BedFrontier() {
        Plain[] kinds = {new Plain(), new Kiss(), new Quarrel(), new Snoring(), new Cat(), new Lamp()};
        home = new House(kinds);
        reader = new Reader(new House(kinds));
        clerk = new Clerk(home);
        images = new House[IMAGES];
        below = 1;
    }

    // ---- a house

    public int house(int toll) {
        if (!within(toll, MOST_TOLL)) {
            return refuseBad(BAD);
        }
        int had = home.doings;
        home.start(toll);
        return had;
    }

    public int rate(int s, int n) {
        if (!isSide(s) || !within(n, MOST_RATE)) {
            return refuseBad(BAD);
        }
        int was = home.rates[s];
        home.rates[s] = n;
        return was;
    }

    public int bar(int s, int hours) {
        if (!isSide(s) || !within(hours, EVERY_HOUR_BARRED)) {
            return refuseBad(BAD);
        }
        int was = home.barred[s];
        home.barred[s] = hours;
        return was;
    }

    public int doing(int kind, int worth) {
        if (!within(kind, KINDS - 1) || !within(worth, MOST_WORTH)) {
            return refuseBad(BAD);
        }
        if (home.doings >= MOST_DOINGS) {
            return refuseFull();
        }
        return home.addDoing(kind, worth);
    }

    public int type(int c) {
        if (!within(c, 127)) {
            return refuseBad(BAD);
        }
        if (reader.length >= MOST_BYTES) {
            return refuseFull();
        }
        return reader.append(c);
    }

    public int clear() {
        int had = reader.length;
        reader.length = 0;
        return had;
    }

    public int read() {
        int answer = reader.parse();
        if (answer > 0) {
            home.takeFrom(reader.draft);
        }
        return answer;
    }

    // ---- hours

    public int does(int d, int s) {
        if (!isDoing(d) || !isSide(s)) {
            return refuseBad(BAD);
        }
        if (!home.lets(d, s, home.hour)) {
            return refuseNo();
        }
        return home.perform(d, s);
    }

    public int waits(int n) {
        if (n < 1 || n > HOURS) {
            return refuseBad(BAD);
        }
        home.keepStep();
        home.hour = (home.hour + n) % HOURS;
        return home.hour;
    }

    public int war(int is) {
        if (!within(is, 1)) {
            return refuseBad(BAD);
        }
        int was = home.warBit();
        home.keepStep();
        home.war = is == 1;
        return was;
    }

    public int undo() {
        if (home.steps == 0) {
            return refuseNo();
        }
        home.takeBack();
        return home.paid;
    }

    public int of(int d, int what) {
        if (!isDoing(d) || !within(what, 1)) {
            return refuseBad(BAD);
        }
        return what == 0 ? home.kindOf[d] : home.worthOf[d];
    }

    public int now(int what) {
        switch (what) {
            case 0:
                return home.side;
            case 1:
                return home.hour;
            case 2:
                return home.paid;
            case 3:
                return home.warBit();
            default:
                return refuseBad(BAD);
        }
    }

    // ---- what is due

    public int due(int d, int s, int hour) {
        if (!isDoing(d) || !isSide(s) || !isHour(hour)) {
            return refuseBad(BAD);
        }
        return home.lets(d, s, hour) ? home.owed(d, s, hour) : NONE;
    }

    public int both(int d, int what) {
        if (!isDoing(d) || !within(what, 1)) {
            return refuseBad(BAD);
        }
        int hours = clerk.hoursBothBar(d);
        return what == 0 ? hours : clerk.firstFromNow(hours);
    }

    public int least(int i) {
        if (i != NONE && !isDoing(i)) {
            return refuseBad(-10);
        }
        if (planner == null) {
            planner = new Planner(home);
        }
        int cost = planner.leastCost();
        if (cost == NONE || i == NONE) {
            return cost;
        }
        return planner.placeOf(i);
    }

    public int before(int s, int x, int t, int y) {
        if (!isSide(s) || !isHour(x) || !isSide(t) || !isHour(y)) {
            return refuseBad(BAD);
        }
        int first = hisHour(s, x);
        int second = hisHour(t, y);
        if (first == second) {
            return 0;
        }
        return first < second ? 1 : 2;
    }

    public int child(int c) {
        if (!within(c, LAST_CHILD_CELL)) {
            return refuseBad(BAD);
        }
        setFraction(Clerk.cellsOfHers(c), Clerk.CHILD_CELLS);
        return 1;
    }

    public int where(int d) {
        if (!isDoing(d)) {
            return refuseBad(BAD);
        }
        return clerk.bestCell(d);
    }

    public int bars(int d) {
        if (!isDoing(d)) {
            return refuseBad(BAD);
        }
        return clerk.restingPairs(d);
    }

    // ---- what was paid

    public int note(int d, int s, int h, int war, int n) {
        if (!isDoing(d) || !isSide(s) || !isHour(h) || !within(war, 1) || !within(n, MOST_NOTED)) {
            return refuseBad(BAD);
        }
        if (home.notes >= MOST_NOTES) {
            return refuseFull();
        }
        return home.addNote(d, s, h, war, n);
    }

    public int forget() {
        int had = home.notes;
        home.notes = 0;
        return had;
    }

    public int is(int d) {
        if (!isDoing(d)) {
            return refuseBad(BAD);
        }
        return clerk.kindsThatFit(d);
    }

    public int look(int d, int s) {
        if (!isDoing(d) || !isSide(s)) {
            return refuseBad(BAD);
        }
        return clerk.hourToLook(d, s, clerk.kindsThatFit(d));
    }

    public int wars(int s, int hour) {
        if (!isSide(s) || !isHour(hour)) {
            return refuseBad(-1000);
        }
        return clerk.moreInWar(s, hour);
    }

    public int sentry(int d, int c) {
        if (!isDoing(d) || !within(c, 10)) {
            return refuseBad(BAD);
        }
        setFraction(100 - clerk.hundredthsShut(d, c), 100);
        return 1;
    }

    public int days(int seed, int n) {
        if (!within(seed, MOST_SEED) || !within(n, MOST_DAYS)) {
            return refuseBad(BAD);
        }
        if (home.doings == 0) {
            return refuseNo();
        }
        return clerk.paidByChance(seed, n);
    }

    // ---- what there is

    public long part(int what) {
        if (!within(what, 1)) {
            return refuseBad(BAD);
        }
        return what == 0 ? above : below;
    }

    public int image(int i) {
        if (!within(i, IMAGES - 1)) {
            return refuseBad(BAD);
        }
        if (images[i] == null) {
            images[i] = new House(home.kinds);
        }
        images[i].takeFrom(home);
        return 1;
    }

    public int from(int i) {
        if (!within(i, IMAGES - 1)) {
            return refuseBad(BAD);
        }
        if (images[i] == null) {
            return refuseNo();
        }
        home.takeFrom(images[i]);
        return 1;
    }

    public int status(int what) {
        switch (what) {
            case 0:
                return bads;
            case 1:
                return noes;
            case 2:
                return fulls;
            default:
                return refuseBad(-1);
        }
    }

    public int count(int what) {
        if (!within(what, 6)) {
            return refuseBad(BAD);
        }
        return howMany(what);
    }

    public long digest() {
        long h = 1217;
        for (int what = 0; what <= 6; what++) {
            h = 31 * h + howMany(what);
        }
        h = home.addedTo(h);
        h = 31 * h + above;
        return 31 * h + below;
    }

    private int howMany(int what) {
        switch (what) {
            case 0:
                return home.doings;
            case 1:
                return home.hour;
            case 2:
                return home.side;
            case 3:
                return home.paid;
            case 4:
                return home.notes;
            case 5:
                return home.steps;
            default:
                return reader.length;
        }
    }

    private int refuseBad(int answer) {
        bads++;
        return answer;
    }

    private int refuseNo() {
        noes++;
        return NO;
    }

    private int refuseFull() {
        fulls++;
        return FULL;
    }

    private boolean isDoing(int d) {
        return d >= 0 && d < home.doings;
    }

    private static boolean isSide(int s) {
        return within(s, SIDES - 1);
    }

    private static boolean isHour(int h) {
        return within(h, HOURS - 1);
    }

    private static boolean within(int n, int most) {
        return n >= 0 && n <= most;
    }

    private static int hisHour(int side, int hour) {
        return side == 0 ? hour : (hour + HOURS - 1) % HOURS;
    }

    private static int ownHour(int side, int his) {
        return side == 0 ? his : (his + 1) % HOURS;
    }

    private void setFraction(int top, int bottom) {
        int divisor = greatestDivisor(top, bottom);
        above = top / divisor;
        below = bottom / divisor;
    }

    private static int greatestDivisor(int a, int b) {
        int x = a;
        int y = b;
        for (int i = 0; i < 64 && y != 0; i++) {
            int rest = x % y;
            x = y;
            y = rest;
        }
        return Math.max(x, 1);
    }

    /** The kind that all others stand under; each says only what differs from the one above it. */
    private static class Plain {
        int price(int worth, int side, int rate, int hour, boolean war) {
            return rate + worth / 5;
        }

        boolean passes(int hour, boolean war) {
            return false;
        }
    }

    private static class Kiss extends Plain {
        int price(int worth, int side, int rate, int hour, boolean war) {
            return 0;
        }
    }

    private static final class Quarrel extends Plain {
        int price(int worth, int side, int rate, int hour, boolean war) {
            int calm = super.price(worth, side, rate, hour, war);
            return war ? 2 * calm : calm;
        }
    }

    private static class Snoring extends Plain {
        static final int NIGHT = 22;
        static final int MORNING = 6;

        int price(int worth, int side, int rate, int hour, boolean war) {
            int quiet = super.price(worth, side, rate, hour, war);
            return hour >= NIGHT || hour < MORNING ? quiet + 2 : quiet;
        }

        boolean passes(int hour, boolean war) {
            return hour >= NIGHT;
        }
    }

    private static final class Cat extends Kiss {
        boolean passes(int hour, boolean war) {
            return true;
        }
    }

    private static final class Lamp extends Snoring {
        int price(int worth, int side, int rate, int hour, boolean war) {
            int dark = super.price(worth, side, rate, hour, war);
            return side == 1 ? Math.max(dark - 1, 0) : dark;
        }

        boolean passes(int hour, boolean war) {
            return !war && super.passes(hour, war);
        }
    }

    /** All that an image keeps: one house, whole, so that one copy is an image or what was read. */
    private static final class House {
        final Plain[] kinds;
        final int[] rates = new int[SIDES];
        final int[] barred = new int[SIDES];
        final int[] kindOf = new int[MOST_DOINGS];
        final int[] worthOf = new int[MOST_DOINGS];
        final int[] noted = new int[MOST_NOTES * NOTE_WIDTH];
        final int[] past = new int[MOST_STEPS * STEP_WIDTH];
        int toll;
        boolean war;
        int side;
        int hour;
        int paid;
        int doings;
        int notes;
        int steps;

        House(Plain[] kinds) {
            this.kinds = kinds;
            start(1);
        }

        void start(int newToll) {
            toll = newToll;
            war = false;
            side = 0;
            hour = 0;
            paid = 0;
            doings = 0;
            notes = 0;
            steps = 0;
            for (int s = 0; s < SIDES; s++) {
                rates[s] = 1;
                barred[s] = 0;
            }
        }

        void takeFrom(House other) {
            toll = other.toll;
            war = other.war;
            side = other.side;
            hour = other.hour;
            paid = other.paid;
            doings = other.doings;
            notes = other.notes;
            steps = other.steps;
            System.arraycopy(other.rates, 0, rates, 0, rates.length);
            System.arraycopy(other.barred, 0, barred, 0, barred.length);
            System.arraycopy(other.kindOf, 0, kindOf, 0, kindOf.length);
            System.arraycopy(other.worthOf, 0, worthOf, 0, worthOf.length);
            System.arraycopy(other.noted, 0, noted, 0, noted.length);
            System.arraycopy(other.past, 0, past, 0, past.length);
        }

        int warBit() {
            return war ? 1 : 0;
        }

        int addDoing(int kind, int worth) {
            kindOf[doings] = kind;
            worthOf[doings] = worth;
            doings++;
            steps = 0;
            return doings - 1;
        }

        int addNote(int d, int s, int h, int inWar, int n) {
            int at = notes * NOTE_WIDTH;
            noted[at] = d;
            noted[at + 1] = s;
            noted[at + 2] = h;
            noted[at + 3] = inWar;
            noted[at + 4] = n;
            notes++;
            return notes;
        }

        boolean passesBarred(int d, int s, int his) {
            return kinds[kindOf[d]].passes(ownHour(s, his), war);
        }

        boolean isBarred(int s, int his) {
            return (barred[s] >> ownHour(s, his) & 1) == 1;
        }

        boolean lets(int d, int s, int his) {
            return !isBarred(s, his) || passesBarred(d, s, his);
        }

        int owed(int d, int s, int his) {
            return kinds[kindOf[d]].price(worthOf[d], s, rates[s], ownHour(s, his), war);
        }

        /** What a doing would cost if it were of another kind; the hour is by that side's clock. */
        int priceAs(int kind, int d, int s, int own, boolean inWar) {
            return kinds[kind].price(worthOf[d], s, rates[s], own, inWar);
        }

        int tollTo(int from, int to) {
            return from == to ? 0 : toll;
        }

        int perform(int d, int s) {
            int cost = owed(d, s, hour) + tollTo(side, s);
            keepStep();
            side = s;
            hour = (hour + 1) % HOURS;
            paid += cost;
            return cost;
        }

        void keepStep() {
            if (steps == MOST_STEPS) {
                // the oldest falls out: only the last ones may be undone
                System.arraycopy(past, STEP_WIDTH, past, 0, past.length - STEP_WIDTH);
                steps--;
            }
            int at = steps * STEP_WIDTH;
            past[at] = side;
            past[at + 1] = hour;
            past[at + 2] = paid;
            past[at + 3] = warBit();
            steps++;
        }

        void takeBack() {
            steps--;
            int at = steps * STEP_WIDTH;
            side = past[at];
            hour = past[at + 1];
            paid = past[at + 2];
            war = past[at + 3] == 1;
        }

        long addedTo(long digest) {
            long h = 31 * digest + toll;
            h = 31 * h + warBit();
            for (int s = 0; s < SIDES; s++) {
                h = 31 * h + rates[s];
                h = 31 * h + barred[s];
            }
            for (int d = 0; d < doings; d++) {
                h = 31 * h + kindOf[d];
                h = 31 * h + worthOf[d];
            }
            for (int i = 0; i < notes * NOTE_WIDTH; i++) {
                h = 31 * h + noted[i];
            }
            return h;
        }
    }

    /** Holds the text and reads it into a draft, so that a fault leaves the house as it was. */
    private static final class Reader {
        static final int WORD = 0;
        static final int NUMBER = 1;
        static final int STOP = 2;
        static final int END = 3;
        static final int OTHER = 4;

        final House draft;
        final byte[] text = new byte[MOST_BYTES];
        int length;
        // the token that is looked at: what it is, where it begins, where the next may begin
        int token;
        int begin;
        int behind;
        int value;

        Reader(House draft) {
            this.draft = draft;
        }

        int append(int c) {
            text[length] = (byte) c;
            length++;
            return length;
        }

        /** How many items, or -10 less the fault: the token looked at is always the one at fault. */
        int parse() {
            draft.start(1);
            behind = 0;
            step();
            int items = 0;
            while (items < MOST_BYTES && (items == 0 || token != END)) {
                if (!item(items == 0) || token != STOP) {
                    return -10 - begin;
                }
                items++;
                step();
            }
            return items;
        }

        /** Reads one item; the token behind it is then looked at. */
        boolean item(boolean first) {
            boolean isHouse = isWord("house");
            if (isHouse != first) {
                return false;
            }
            if (isHouse) {
                return tollItem();
            }
            if (isWord("rate")) {
                return rateItem();
            }
            if (isWord("bar")) {
                return barItem();
            }
            if (isWord("doing")) {
                return doingItem();
            }
            if (isWord("war")) {
                draft.war = true;
                step();
                return true;
            }
            return false;
        }

        boolean tollItem() {
            if (!number(MOST_TOLL)) {
                return false;
            }
            draft.toll = value;
            step();
            return true;
        }

        boolean rateItem() {
            if (!number(SIDES - 1)) {
                return false;
            }
            int s = value;
            if (!number(MOST_RATE)) {
                return false;
            }
            draft.rates[s] = value;
            step();
            return true;
        }

        boolean barItem() {
            if (!number(SIDES - 1)) {
                return false;
            }
            int s = value;
            int hours = 0;
            step();
            for (int i = 0; i < MOST_BYTES && token == NUMBER; i++) {
                if (!within(value, HOURS - 1)) {
                    return false;
                }
                hours |= 1 << value;
                step();
            }
            draft.barred[s] = hours;
            return true;
        }

        boolean doingItem() {
            if (draft.doings >= MOST_DOINGS || !number(KINDS - 1)) {
                return false;
            }
            int kind = value;
            if (!number(MOST_WORTH)) {
                return false;
            }
            draft.addDoing(kind, value);
            step();
            return true;
        }

        boolean number(int most) {
            step();
            return token == NUMBER && within(value, most);
        }

        boolean isWord(String word) {
            if (token != WORD || behind - begin != word.length()) {
                return false;
            }
            for (int i = 0; i < word.length(); i++) {
                if (text[begin + i] != word.charAt(i)) {
                    return false;
                }
            }
            return true;
        }

        void step() {
            begin = behind;
            while (begin < length && text[begin] == ' ') {
                begin++;
            }
            behind = begin;
            if (begin >= length) {
                token = END;
                return;
            }
            token = tokenOf(text[begin]);
            behind++;
            while (behind < length && (token == WORD || token == NUMBER)
                    && tokenOf(text[behind]) == token) {
                behind++;
            }
            value = token == NUMBER ? valueOfFigures() : NONE;
        }

        static int tokenOf(int c) {
            if (c >= 'a' && c <= 'z') {
                return WORD;
            }
            if (c >= '0' && c <= '9') {
                return NUMBER;
            }
            return c == ';' ? STOP : OTHER;
        }

        /** A third figure makes a number that fits nowhere. */
        int valueOfFigures() {
            int last = text[behind - 1] - '0';
            switch (behind - begin) {
                case 1:
                    return last;
                case 2:
                    return 10 * (text[begin] - '0') + last;
                default:
                    return NONE;
            }
        }
    }

    /** Finds the cheapest day from its end backwards: for each hour, side and set of doings done. */
    private static final class Planner {
        static final int SETS = 64;
        /** Above all that a day can cost; a sum of some of these stays an int. */
        static final int FAR = 1000000;

        final House home;
        final int[] costs = new int[(HOURS + 1) * SIDES * SETS];
        final int[] prices = new int[HOURS * SIDES * MOST_DOINGS];

        Planner(House home) {
            this.home = home;
        }

        int leastCost() {
            endOfDay();
            for (int hour = HOURS - 1; hour >= home.hour; hour--) {
                priceHour(hour);
                fillHour(hour);
            }
            int cost = costs[costAt(home.hour, home.side)];
            return cost < FAR ? cost : NONE;
        }

        int allDone() {
            return (1 << home.doings) - 1;
        }

        void endOfDay() {
            int all = allDone();
            for (int s = 0; s < SIDES; s++) {
                for (int done = 0; done <= all; done++) {
                    costs[costAt(HOURS, s) + done] = done == all ? 0 : FAR;
                }
            }
        }

        void priceHour(int hour) {
            for (int s = 0; s < SIDES; s++) {
                for (int d = 0; d < home.doings; d++) {
                    boolean open = home.lets(d, s, hour);
                    prices[priceAt(hour, s) + d] = open ? home.owed(d, s, hour) : FAR;
                }
            }
        }

        void fillHour(int hour) {
            int all = allDone();
            for (int done = 0; done <= all; done++) {
                int his = cheapestOn(0, hour, done);
                int hers = cheapestOn(1, hour, done);
                costs[costAt(hour, 0) + done] = Math.min(costs[costAt(hour + 1, 0) + done],
                        Math.min(his, hers + home.toll));
                costs[costAt(hour, 1) + done] = Math.min(costs[costAt(hour + 1, 1) + done],
                        Math.min(hers, his + home.toll));
            }
        }

        /** The day's rest, if some doing is done on this side now; the toll to get there left out. */
        int cheapestOn(int s, int hour, int done) {
            int rest = costAt(hour + 1, s);
            int price = priceAt(hour, s);
            int least = FAR;
            for (int d = 0; d < home.doings; d++) {
                if ((done >> d & 1) == 0) {
                    least = Math.min(least, prices[price + d] + costs[rest + (done | 1 << d)]);
                }
            }
            return least;
        }

        static int costAt(int hour, int s) {
            return (hour * SIDES + s) * SETS;
        }

        static int priceAt(int hour, int s) {
            return (hour * SIDES + s) * MOST_DOINGS;
        }

        /** 10 hour and side of a doing in the first cheapest day; costs must stand already. */
        int placeOf(int wanted) {
            int side = home.side;
            int done = 0;
            for (int hour = home.hour; hour < HOURS; hour++) {
                int step = firstStep(hour, side, done);
                if (step != NONE) {
                    int d = step / SIDES;
                    side = step % SIDES;
                    if (d == wanted) {
                        return 10 * hour + side;
                    }
                    done |= 1 << d;
                }
            }
            return NONE;
        }

        /** NONE to wait, else twice the doing and the side. */
        int firstStep(int hour, int side, int done) {
            int cost = costs[costAt(hour, side) + done];
            if (costs[costAt(hour + 1, side) + done] == cost) {
                return NONE;
            }
            for (int step = 0; step < SIDES * home.doings; step++) {
                int d = step / SIDES;
                int s = step % SIDES;
                int rest = costs[costAt(hour + 1, s) + (done | 1 << d)];
                int price = prices[priceAt(hour, s) + d] + home.tollTo(side, s);
                if ((done >> d & 1) == 0 && price + rest == cost) {
                    return step;
                }
            }
            return NONE;
        }
    }

    /** Answers what is asked of a house and changes nothing in it. */
    private static final class Clerk {
        static final int CHILD_CELLS = 3;
        static final int FIRST_CELL_OF_HERS = 5;
        static final int SHUT_OUT = 99;
        static final int PAIRS = 4;
        static final int TENTHS = 10;

        final House home;
        final int[] prices = new int[KINDS];

        Clerk(House home) {
            this.home = home;
        }

        int hoursBothBar(int d) {
            int hours = 0;
            for (int h = 0; h < HOURS; h++) {
                if (!home.lets(d, 0, h) && !home.lets(d, 1, h)) {
                    hours |= 1 << h;
                }
            }
            return hours;
        }

        int firstFromNow(int hours) {
            for (int i = 0; i < HOURS; i++) {
                int h = (home.hour + i) % HOURS;
                if ((hours >> h & 1) == 1) {
                    return h;
                }
            }
            return NONE;
        }

        static int cellsOfHers(int c) {
            return Math.max(0, Math.min(CHILD_CELLS, c + CHILD_CELLS - FIRST_CELL_OF_HERS));
        }

        int bestCell(int d) {
            int his = priceOfCell(d, 0);
            int hers = priceOfCell(d, 1);
            int best = 0;
            int least = CHILD_CELLS * his;
            for (int c = 1; c <= LAST_CHILD_CELL; c++) {
                int over = cellsOfHers(c);
                int cost = (CHILD_CELLS - over) * his + over * hers;
                if (cost < least) {
                    least = cost;
                    best = c;
                }
            }
            return best;
        }

        int priceOfCell(int d, int s) {
            return home.lets(d, s, home.hour) ? home.owed(d, s, home.hour) : SHUT_OUT;
        }

        int restingPairs(int d) {
            int rest = 0;
            for (int pair = 0; pair < PAIRS; pair++) {
                boolean his = gainOfHis(d, pair) >= gainOfHis(d, pair ^ 1);
                boolean hers = gainOfHers(d, pair) >= gainOfHers(d, pair ^ 2);
                if (his && hers) {
                    rest |= 1 << pair;
                }
            }
            return rest;
        }

        /** What his side has, if they bar the hour as the pair's bits tell. */
        int gainOfHis(int d, int pair) {
            int his = home.owed(d, 0, home.hour);
            boolean theirs = isOpen(d, 1, pair) && home.owed(d, 1, home.hour) < his;
            return isOpen(d, 0, pair) && !theirs ? his : 0;
        }

        int gainOfHers(int d, int pair) {
            int hers = home.owed(d, 1, home.hour);
            boolean theirs = isOpen(d, 0, pair) && home.owed(d, 0, home.hour) <= hers;
            return isOpen(d, 1, pair) && !theirs ? hers : 0;
        }

        boolean isOpen(int d, int s, int pair) {
            return (pair >> s & 1) == 0 || home.passesBarred(d, s, home.hour);
        }

        int kindsThatFit(int d) {
            int fit = 0;
            for (int kind = 0; kind < KINDS; kind++) {
                if (fitsNotes(kind, d)) {
                    fit |= 1 << kind;
                }
            }
            return fit;
        }

        boolean fitsNotes(int kind, int d) {
            for (int i = 0; i < home.notes; i++) {
                int at = i * NOTE_WIDTH;
                if (home.noted[at] == d) {
                    boolean war = home.noted[at + 3] == 1;
                    int price = home.priceAs(kind, d, home.noted[at + 1], home.noted[at + 2], war);
                    if (price != home.noted[at + 4]) {
                        return false;
                    }
                }
            }
            return true;
        }

        int hourToLook(int d, int s, int fit) {
            if (fit == 0) {
                return NONE;
            }
            int best = 0;
            int fewest = KINDS + 1;
            for (int h = 0; h < HOURS; h++) {
                for (int kind = 0; kind < KINDS; kind++) {
                    prices[kind] = home.priceAs(kind, d, s, h, false);
                }
                int most = mostAlike(fit);
                if (most < fewest) {
                    fewest = most;
                    best = h;
                }
            }
            return best;
        }

        int mostAlike(int fit) {
            int most = 0;
            for (int kind = 0; kind < KINDS; kind++) {
                int alike = 0;
                for (int other = 0; other < KINDS; other++) {
                    if ((fit >> other & 1) == 1 && prices[other] == prices[kind]) {
                        alike++;
                    }
                }
                most = Math.max(most, alike);
            }
            return most;
        }

        int moreInWar(int s, int his) {
            int own = ownHour(s, his);
            int more = 0;
            for (int d = 0; d < home.doings; d++) {
                int kind = home.kindOf[d];
                more += home.priceAs(kind, d, s, own, true) - home.priceAs(kind, d, s, own, false);
            }
            return more;
        }

        int hundredthsShut(int d, int c) {
            return tenthsShut(d, 0, c) * tenthsShut(d, 1, c);
        }

        int tenthsShut(int d, int s, int c) {
            if (home.passesBarred(d, s, home.hour)) {
                return 0;
            }
            return home.isBarred(s, home.hour) ? TENTHS : c;
        }

        /** Runs on copies of side and hour; there must be a doing. */
        int paidByChance(int seed, int n) {
            long x = seed;
            int side = home.side;
            int hour = home.hour;
            int sum = 0;
            for (int i = 0; i < n; i++) {
                x = nextChance(x);
                int d = (int) (x / 65536 % home.doings);
                x = nextChance(x);
                int s = (int) (x / 65536 % SIDES);
                if (home.lets(d, s, hour)) {
                    sum += home.owed(d, s, hour) + home.tollTo(side, s);
                    side = s;
                }
                hour = (hour + 1) % HOURS;
            }
            return sum;
        }

        static long nextChance(long x) {
            return (x * 1103515245L + 12345L) % 2147483648L;
        }
    }
}
