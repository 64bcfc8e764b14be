import java.util.function.IntToLongFunction;
import java.util.function.LongSupplier;

/** What the tests of boundary cases share: a refusal is an answer, a count, and nothing else. */
abstract class Bounds {
    static final int NONE = BedFrontier.NONE;
    static final int BAD = BedFrontier.BAD;
    static final int NO = BedFrontier.NO;
    static final int FULL = BedFrontier.FULL;
    static final int LOW = Integer.MIN_VALUE;
    static final int HIGH = Integer.MAX_VALUE;
    static final int HIS = 0;
    static final int HERS = 1;
    static final int ALL = 16777215;
    static final int PLAIN = 0;
    static final int KISS = 1;
    static final int QUARREL = 2;
    static final int SNORING = 3;
    static final int CAT = 4;
    static final int LAMP = 5;

    private Check check;
    private String test;

    void begin(Check into, String name) {
        check = into;
        test = name;
    }

    void eq(String what, long got, long want) {
        check.due(test + ": " + what, got, want);
    }

    /** The answer is the one due, all stays but the one count of STATUS. */
    void refused(BedFrontier x, int reason, long answer, LongSupplier call) {
        int[] before = {x.status(0), x.status(1), x.status(2)};
        long digest = x.digest();
        eq("refused", call.getAsLong(), answer);
        eq("refused, all stays", x.digest(), digest);
        for (int r = 0; r < 3; r++) {
            eq("refused, status " + r, x.status(r), before[r] + (r == reason ? 1 : 0));
        }
    }

    void bad(BedFrontier x, LongSupplier call) {
        refused(x, 0, BAD, call);
    }

    void no(BedFrontier x, LongSupplier call) {
        refused(x, 1, NO, call);
    }

    void full(BedFrontier x, LongSupplier call) {
        refused(x, 2, FULL, call);
    }

    /** The answer is the one due, and none of STATUS counts it. */
    void taken(BedFrontier x, long answer, LongSupplier call) {
        int before = refusals(x);
        eq("taken", call.getAsLong(), answer);
        eq("taken, status", refusals(x), before);
    }

    /** All from low to high is no refusal; what lies next to that, or far from it, is one. */
    void range(BedFrontier x, int low, int high, long refusal, IntToLongFunction call) {
        for (int n : new int[] {low - 1, high + 1, LOW, HIGH}) {
            refused(x, 0, refusal, () -> call.applyAsLong(n));
        }
        int before = refusals(x);
        for (int n : new int[] {low, high}) {
            call.applyAsLong(n);
            eq(n + " is as told", refusals(x), before);
        }
    }

    void range(BedFrontier x, int low, int high, IntToLongFunction call) {
        range(x, low, high, BAD, call);
    }

    private static int refusals(BedFrontier x) {
        return x.status(0) + x.status(1) + x.status(2);
    }

    void fraction(String what, BedFrontier x, int above, int below) {
        eq(what + ", above", x.part(0), above);
        eq(what + ", below", x.part(1), below);
    }

    /** Toll 3, rates 2 and 4, a doing of worth 10 of each kind: doing d is of kind d. */
    static BedFrontier kinds() {
        BedFrontier x = new BedFrontier();
        x.house(3);
        x.rate(HIS, 2);
        x.rate(HERS, 4);
        for (int kind = 0; kind < 6; kind++) {
            x.doing(kind, 10);
        }
        return x;
    }

    static BedFrontier one(int kind, int worth) {
        BedFrontier x = new BedFrontier();
        x.doing(kind, worth);
        return x;
    }

    static void barBoth(BedFrontier x, int hours) {
        x.bar(HIS, hours);
        x.bar(HERS, hours);
    }

    static int bit(int hour) {
        return 1 << hour;
    }
}
