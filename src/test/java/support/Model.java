import java.util.ArrayDeque;
import java.util.ArrayList;
import java.util.Arrays;
import java.util.HashMap;
import java.util.List;
import java.util.Map;
import java.util.TreeMap;
import java.util.regex.Matcher;
import java.util.regex.Pattern;

/**
 * A second telling of the document, written apart from the class and by other means (lists,
 * fractions by search, ways by recursion), so that a slip in one shows against the other.
 */
final class Model {
    private static final class State {
        int toll = 1;
        int war;
        int side;
        int hour;
        int paid;
        int[] rate = {1, 1};
        boolean[][] barred = new boolean[2][24];
        List<int[]> doings = new ArrayList<>();
        List<int[]> notes = new ArrayList<>();
        ArrayDeque<int[]> past = new ArrayDeque<>();

        State copy() {
            State c = new State();
            c.toll = toll;
            c.war = war;
            c.side = side;
            c.hour = hour;
            c.paid = paid;
            c.rate = rate.clone();
            c.barred = new boolean[][] {barred[0].clone(), barred[1].clone()};
            c.doings.addAll(doings);
            c.notes.addAll(notes);
            c.past.addAll(past);
            return c;
        }
    }

    private State now = new State();
    private final State[] images = new State[2];
    private String text = "";
    private int above = 0;
    private int below = 1;
    private final int[] refused = new int[3];

    private int bad(int answer) {
        refused[0]++;
        return answer;
    }

    private int bad() {
        return bad(-2);
    }

    private int no() {
        refused[1]++;
        return -3;
    }

    private int full() {
        refused[2]++;
        return -4;
    }

    private boolean out(int n, int low, int high) {
        return n < low || n > high;
    }

    private boolean noDoing(int d) {
        return out(d, 0, now.doings.size() - 1);
    }

    private static int clock(int side, int his) {
        return side == 1 ? (his == 23 ? 0 : his + 1) : his;
    }

    private static int price(int kind, int v, int s, int r, int h, int war) {
        int plain = r + v / 5;
        int snoring = plain + (h >= 22 || h <= 5 ? 2 : 0);
        switch (kind) {
            case 0:
                return plain;
            case 2:
                return plain * (1 + war);
            case 3:
                return snoring;
            case 5:
                return s == 0 || snoring == 0 ? snoring : snoring - 1;
            default:
                return 0;
        }
    }

    private static boolean slips(int kind, int h, int war) {
        return kind == 4 || kind == 3 && h >= 22 || kind == 5 && h >= 22 && war == 0;
    }

    private int cost(int d, int s, int his, int war) {
        int[] it = now.doings.get(d);
        return price(it[0], it[1], s, now.rate[s], clock(s, his), war);
    }

    private boolean slips(int d, int s, int his, int war) {
        return slips(now.doings.get(d)[0], clock(s, his), war);
    }

    private boolean through(int d, int s, int his) {
        return !now.barred[s][clock(s, his)] || slips(d, s, his, now.war);
    }

    private static int bits(boolean[] row) {
        int b = 0;
        for (int i = 0; i < row.length; i++) {
            b += row[i] ? 1 << i : 0;
        }
        return b;
    }

    int house(int toll) {
        if (out(toll, 0, 9)) {
            return bad();
        }
        int had = now.doings.size();
        now = new State();
        now.toll = toll;
        return had;
    }

    int rate(int s, int n) {
        if (out(s, 0, 1) || out(n, 0, 9)) {
            return bad();
        }
        int was = now.rate[s];
        now.rate[s] = n;
        return was;
    }

    int bar(int s, int hours) {
        if (out(s, 0, 1) || out(hours, 0, 16777215)) {
            return bad();
        }
        int was = bits(now.barred[s]);
        for (int h = 0; h < 24; h++) {
            now.barred[s][h] = (hours & 1 << h) != 0;
        }
        return was;
    }

    int doing(int kind, int worth) {
        if (out(kind, 0, 5) || out(worth, 0, 20)) {
            return bad();
        }
        if (now.doings.size() == 6) {
            return full();
        }
        now.doings.add(new int[] {kind, worth});
        now.past.clear();
        return now.doings.size() - 1;
    }

    int type(int c) {
        if (out(c, 0, 127)) {
            return bad();
        }
        if (text.length() == 150) {
            return full();
        }
        text += (char) c;
        return text.length();
    }

    int clear() {
        int had = text.length();
        text = "";
        return had;
    }

    /** Tries the whole text by one pattern an item; the fault is searched token by token. */
    int read() {
        List<String> tokens = new ArrayList<>();
        List<Integer> places = new ArrayList<>();
        Matcher m = Pattern.compile("[a-z]+|[0-9]+|[^ ]", Pattern.DOTALL).matcher(text);
        while (m.find()) {
            tokens.add(m.group());
            places.add(m.start());
        }
        places.add(text.length());
        State fresh = new State();
        int items = 0;
        int at = 0;
        while (at < tokens.size() || items == 0) {
            int ended = readItem(tokens, at, fresh, items);
            if (ended < 0) {
                return -10 - places.get(-1 - ended);
            }
            items++;
            at = ended;
        }
        now = fresh;
        return items;
    }

    /** The place behind the item's stop among the tokens, or -1 less that of the token at fault. */
    private static int readItem(List<String> tokens, int at, State fresh, int items) {
        String word = at < tokens.size() ? tokens.get(at) : "";
        String shape;
        switch (word) {
            case "house":
                shape = items == 0 ? "9" : "";
                break;
            case "rate":
                shape = items > 0 ? "1 9" : "";
                break;
            case "bar":
                shape = items > 0 ? "1 23*" : "";
                break;
            case "war":
                shape = items > 0 ? "." : "";
                break;
            case "doing":
                shape = items > 0 && fresh.doings.size() < 6 ? "5 20" : "";
                break;
            default:
                shape = "";
        }
        if (shape.isEmpty()) {
            return -1 - at;
        }
        List<Integer> numbers = new ArrayList<>();
        int next = at + 1;
        for (String most : shape.equals(".") ? new String[0] : shape.split(" ")) {
            boolean many = most.endsWith("*");
            int limit = Integer.parseInt(many ? most.substring(0, most.length() - 1) : most);
            do {
                String t = next < tokens.size() ? tokens.get(next) : "";
                if (many && !t.matches("[0-9]+")) {
                    break;
                }
                if (!t.matches("[0-9]{1,2}") || Integer.parseInt(t) > limit) {
                    return -1 - next;
                }
                numbers.add(Integer.parseInt(t));
                next++;
            } while (many);
        }
        if (next >= tokens.size() || !tokens.get(next).equals(";")) {
            return -1 - next;
        }
        apply(word, numbers, fresh);
        return next + 1;
    }

    private static void apply(String word, List<Integer> numbers, State fresh) {
        switch (word) {
            case "house":
                fresh.toll = numbers.get(0);
                break;
            case "rate":
                fresh.rate[numbers.get(0)] = numbers.get(1);
                break;
            case "bar":
                Arrays.fill(fresh.barred[numbers.get(0)], false);
                for (int h : numbers.subList(1, numbers.size())) {
                    fresh.barred[numbers.get(0)][h] = true;
                }
                break;
            case "war":
                fresh.war = 1;
                break;
            default:
                fresh.doings.add(new int[] {numbers.get(0), numbers.get(1)});
        }
    }

    private void remember() {
        now.past.addLast(new int[] {now.side, now.hour, now.paid, now.war});
        if (now.past.size() > 8) {
            now.past.removeFirst();
        }
    }

    int does(int d, int s) {
        if (noDoing(d) || out(s, 0, 1)) {
            return bad();
        }
        if (!through(d, s, now.hour)) {
            return no();
        }
        remember();
        int sum = cost(d, s, now.hour, now.war) + (now.side == s ? 0 : now.toll);
        now.side = s;
        now.paid += sum;
        now.hour = now.hour == 23 ? 0 : now.hour + 1;
        return sum;
    }

    int waits(int n) {
        if (out(n, 1, 24)) {
            return bad();
        }
        remember();
        for (int i = 0; i < n; i++) {
            now.hour = now.hour == 23 ? 0 : now.hour + 1;
        }
        return now.hour;
    }

    int war(int is) {
        if (out(is, 0, 1)) {
            return bad();
        }
        remember();
        int was = now.war;
        now.war = is;
        return was;
    }

    int undo() {
        if (now.past.isEmpty()) {
            return no();
        }
        int[] then = now.past.removeLast();
        now.side = then[0];
        now.hour = then[1];
        now.paid = then[2];
        now.war = then[3];
        return now.paid;
    }

    int of(int d, int what) {
        return noDoing(d) || out(what, 0, 1) ? bad() : now.doings.get(d)[what];
    }

    int now(int what) {
        if (out(what, 0, 3)) {
            return bad();
        }
        return new int[] {now.side, now.hour, now.paid, now.war}[what];
    }

    int due(int d, int s, int hour) {
        if (noDoing(d) || out(s, 0, 1) || out(hour, 0, 23)) {
            return bad();
        }
        return through(d, s, hour) ? cost(d, s, hour, now.war) : -1;
    }

    int both(int d, int what) {
        if (noDoing(d) || out(what, 0, 1)) {
            return bad();
        }
        boolean[] shut = new boolean[24];
        for (int h = 0; h < 24; h++) {
            shut[h] = !through(d, 0, h) && !through(d, 1, h);
        }
        if (what == 0) {
            return bits(shut);
        }
        for (int h = now.hour; h < now.hour + 24; h++) {
            if (shut[h % 24]) {
                return h % 24;
            }
        }
        return -1;
    }

    /** A way: its cost, then 10 hour and side for each doing. */
    private int[] way(int hour, int side, int left, Map<Integer, int[]> known) {
        if (left == 0) {
            return new int[7];
        }
        if (hour == 24) {
            return null;
        }
        int key = (left * 2 + side) * 24 + hour;
        if (known.containsKey(key)) {
            return known.get(key);
        }
        int[] best = way(hour + 1, side, left, known);
        for (int d = 0; d < now.doings.size(); d++) {
            for (int s = 0; s < 2; s++) {
                if ((left & 1 << d) == 0 || !through(d, s, hour)) {
                    continue;
                }
                int[] rest = way(hour + 1, s, left - (1 << d), known);
                int paid = cost(d, s, hour, now.war) + (s == side ? 0 : now.toll);
                if (rest != null && (best == null || paid + rest[0] < best[0])) {
                    best = rest.clone();
                    best[0] += paid;
                    best[1 + d] = 10 * hour + s;
                }
            }
        }
        known.put(key, best);
        return best;
    }

    int least(int i) {
        if (i != -1 && noDoing(i)) {
            return bad(-10);
        }
        int[] best = way(now.hour, now.side, (1 << now.doings.size()) - 1, new HashMap<>());
        return best == null ? -1 : best[i + 1];
    }

    int before(int s, int x, int t, int y) {
        if (out(s, 0, 1) || out(t, 0, 1) || out(x, 0, 23) || out(y, 0, 23)) {
            return bad();
        }
        int first = s == 0 ? x : x == 0 ? 23 : x - 1;
        int second = t == 0 ? y : y == 0 ? 23 : y - 1;
        return first < second ? 1 : first > second ? 2 : 0;
    }

    private void fraction(int top, int bottom) {
        for (below = 1; top * below % bottom != 0; below++) {
            above = 0;
        }
        above = top * below / bottom;
    }

    private static int hers(int c) {
        int n = 0;
        for (int cell = c; cell < c + 3; cell++) {
            n += cell >= 5 ? 1 : 0;
        }
        return n;
    }

    int child(int c) {
        if (out(c, 0, 7)) {
            return bad();
        }
        fraction(hers(c), 3);
        return 1;
    }

    int where(int d) {
        if (noDoing(d)) {
            return bad();
        }
        TreeMap<Integer, Integer> firstByCost = new TreeMap<>();
        for (int c = 0; c <= 7; c++) {
            int sum = 0;
            for (int cell = c; cell < c + 3; cell++) {
                int s = cell >= 5 ? 1 : 0;
                sum += through(d, s, now.hour) ? cost(d, s, now.hour, now.war) : 99;
            }
            firstByCost.putIfAbsent(sum, c);
        }
        return firstByCost.firstEntry().getValue();
    }

    private int[] gains(int d, boolean... bars) {
        int has = -1;
        for (int s = 0; s < 2; s++) {
            boolean open = !bars[s] || slips(d, s, now.hour, now.war);
            int sum = cost(d, s, now.hour, now.war);
            if (open && (has < 0 || sum < cost(d, has, now.hour, now.war))) {
                has = s;
            }
        }
        int[] gains = new int[2];
        if (has >= 0) {
            gains[has] = cost(d, has, now.hour, now.war);
        }
        return gains;
    }

    int bars(int d) {
        if (noDoing(d)) {
            return bad();
        }
        int rest = 0;
        int bit = 1;
        for (boolean hers : new boolean[] {false, true}) {
            for (boolean his : new boolean[] {false, true}) {
                int[] here = gains(d, his, hers);
                if (gains(d, !his, hers)[0] <= here[0] && gains(d, his, !hers)[1] <= here[1]) {
                    rest += bit;
                }
                bit *= 2;
            }
        }
        return rest;
    }

    int note(int d, int s, int h, int war, int n) {
        if (noDoing(d) || out(s, 0, 1) || out(h, 0, 23) || out(war, 0, 1) || out(n, 0, 60)) {
            return bad();
        }
        if (now.notes.size() == 6) {
            return full();
        }
        now.notes.add(new int[] {d, s, h, war, n});
        return now.notes.size();
    }

    /** What a note of these would tell, were its doing of this kind: for runs with notes that fit. */
    int noteOf(int kind, Object[] note) {
        int d = (Integer) note[0];
        int s = (Integer) note[1];
        if (noDoing(d) || out(s, 0, 1)) {
            return 0;
        }
        return price(kind, now.doings.get(d)[1], s, now.rate[s], (Integer) note[2], (Integer) note[3]);
    }

    int forget() {
        int had = now.notes.size();
        now.notes.clear();
        return had;
    }

    private List<Integer> fitting(int d) {
        List<Integer> kinds = new ArrayList<>(List.of(0, 1, 2, 3, 4, 5));
        int v = now.doings.get(d)[1];
        for (int[] t : now.notes) {
            if (t[0] == d) {
                kinds.removeIf(k -> price(k, v, t[1], now.rate[t[1]], t[2], t[3]) != t[4]);
            }
        }
        return kinds;
    }

    int is(int d) {
        return noDoing(d) ? bad() : fitting(d).stream().mapToInt(k -> 1 << k).sum();
    }

    int look(int d, int s) {
        if (noDoing(d) || out(s, 0, 1)) {
            return bad();
        }
        int best = -1;
        int fewest = 99;
        List<Integer> kinds = fitting(d);
        for (int h = 0; h < 24 && !kinds.isEmpty(); h++) {
            Map<Integer, Integer> groups = new HashMap<>();
            int most = 0;
            for (int k : kinds) {
                int sum = price(k, now.doings.get(d)[1], s, now.rate[s], h, 0);
                most = Math.max(most, groups.merge(sum, 1, Integer::sum));
            }
            if (most < fewest) {
                fewest = most;
                best = h;
            }
        }
        return best;
    }

    int wars(int s, int hour) {
        if (out(s, 0, 1) || out(hour, 0, 23)) {
            return bad(-1000);
        }
        int with = 0;
        int without = 0;
        for (int d = 0; d < now.doings.size(); d++) {
            with += cost(d, s, hour, 1);
            without += cost(d, s, hour, 0);
        }
        return with - without;
    }

    /** Counts the hundred even cases of two sentries, instead of multiplying odds. */
    int sentry(int d, int c) {
        if (noDoing(d) || out(c, 0, 10)) {
            return bad();
        }
        int cases = 0;
        for (int his = 0; his < 10; his++) {
            for (int hers = 0; hers < 10; hers++) {
                boolean a = through(d, 0, now.hour) && (his >= c || slips(d, 0, now.hour, now.war));
                boolean b = through(d, 1, now.hour) && (hers >= c || slips(d, 1, now.hour, now.war));
                cases += a || b ? 1 : 0;
            }
        }
        fraction(cases, 100);
        return 1;
    }

    int days(int seed, int n) {
        if (out(seed, 0, 999999) || out(n, 0, 60)) {
            return bad();
        }
        if (now.doings.isEmpty()) {
            return no();
        }
        State kept = now;
        int noes = refused[1];
        now = now.copy();
        long x = seed;
        int paid = now.paid;
        for (int i = 0; i < n; i++) {
            x = (x * 1103515245L + 12345) & 0x7fffffffL;
            int d = (int) ((x >> 16) % now.doings.size());
            x = (x * 1103515245L + 12345) & 0x7fffffffL;
            int s = (int) ((x >> 16) & 1);
            if (does(d, s) == -3) {
                waits(1);
            }
        }
        int sum = now.paid - paid;
        now = kept;
        refused[1] = noes;
        return sum;
    }

    long part(int what) {
        return what == 0 ? above : what == 1 ? below : bad();
    }

    int image(int i) {
        if (out(i, 0, 1)) {
            return bad();
        }
        images[i] = now.copy();
        return 1;
    }

    int from(int i) {
        if (out(i, 0, 1)) {
            return bad();
        }
        if (images[i] == null) {
            return no();
        }
        now = images[i].copy();
        return 1;
    }

    int status(int what) {
        return out(what, 0, 2) ? bad(-1) : refused[what];
    }

    private int[] counts() {
        return new int[] {now.doings.size(), now.hour, now.side, now.paid, now.notes.size(),
            now.past.size(), text.length()};
    }

    int count(int what) {
        return out(what, 0, 6) ? bad() : counts()[what];
    }

    long digest() {
        List<Integer> all = new ArrayList<>();
        for (int n : counts()) {
            all.add(n);
        }
        all.addAll(List.of(now.toll, now.war));
        for (int s = 0; s < 2; s++) {
            all.addAll(List.of(now.rate[s], bits(now.barred[s])));
        }
        for (int[] row : now.doings) {
            for (int n : row) {
                all.add(n);
            }
        }
        for (int[] row : now.notes) {
            for (int n : row) {
                all.add(n);
            }
        }
        all.addAll(List.of(above, below));
        long h = 1217;
        for (int n : all) {
            h = 31 * h + n;
        }
        return h;
    }
}
