import java.math.BigInteger;
import java.util.ArrayDeque;
import java.util.ArrayList;
import java.util.Deque;
import java.util.List;
import java.util.regex.Matcher;
import java.util.regex.Pattern;

/** The document read a second time, with all the Java library: what the random runs compare with. */
final class Model {
    static final int BAD = -1, NO = -2, FULL = -3, NONE = -4;

    static final class State {
        List<int[]> cast = new ArrayList<>(); // kind, heeds
        List<Integer> order = new ArrayList<>(); // courtiers by place
        List<Integer> at = new ArrayList<>();
        List<int[]> beliefs = new ArrayList<>(); // a row for each news
        int days;

        State copy() {
            State s = new State();
            for (int[] one : cast) s.cast.add(one.clone());
            s.order.addAll(order);
            s.at.addAll(at);
            for (int[] row : beliefs) s.beliefs.add(row.clone());
            s.days = days;
            return s;
        }

        int size() { return cast.size(); }
        int newsSize() { return at.size(); }
        boolean known(int n) { return at.get(n) == 9; }
        boolean doubts(int c, int n) { return beliefs.get(n)[c] <= 4; }

        void up(int n) {
            int place = order.indexOf(at.get(n));
            at.set(n, place == 0 ? 9 : order.get(place - 1));
        }

        void day() {
            List<int[]> before = new ArrayList<>();
            for (int[] row : beliefs) before.add(row.clone());
            for (int n = 0; n < newsSize(); n++) {
                if (known(n)) continue;
                if (doubts(at.get(n), n)) { up(n); continue; }
                int here = order.indexOf(at.get(n));
                search:
                for (int way = 1; way < size(); way++) {
                    for (int there : new int[] {here - way, here + way}) {
                        if (there >= 0 && there < size() && doubts(order.get(there), n)) {
                            at.set(n, order.get(there));
                            break search;
                        }
                    }
                }
            }
            for (int n = 0; n < newsSize(); n++) {
                if (known(n)) continue;
                for (int c = 0; c < size(); c++) {
                    int kind = cast.get(c)[0], heeds = cast.get(c)[1], more = 0;
                    boolean stirred = heeds >= 0 && before.get(n)[heeds] > 4;
                    if (kind == 0 && stirred) more = 1;
                    if (kind == 1 && stirred) more = 2;
                    if (kind == 3 && at.get(n) != c) more = -1;
                    beliefs.get(n)[c] = cut(before.get(n)[c] + more);
                }
            }
            days++;
        }

        int comes(int n) {
            State s = copy();
            for (int day = 0; day <= 60; day++) {
                if (s.known(n)) return day;
                s.day();
            }
            return NONE;
        }

        State later(int n) {
            State s = copy();
            for (int i = 0; i < n; i++) s.day();
            return s;
        }

        int knownInAll() { return (int) at.stream().filter(a -> a == 9).count(); }
        int beliefsInAll() {
            int sum = 0;
            for (int[] row : beliefs) for (int belief : row) sum += belief;
            return sum;
        }

        void change(int c, int d) {
            int i = order.indexOf(c), j = order.indexOf(d);
            order.set(i, d);
            order.set(j, c);
        }
    }

    private static final Pattern ITEM =
            Pattern.compile("c(\\d\\d?),(\\d\\d?);|n(\\d\\d?),(\\d+);");

    private String text = "";
    private State now;
    private final Deque<State> undone = new ArrayDeque<>();
    private final Deque<State> kept = new ArrayDeque<>();
    private final List<int[]> seen = new ArrayList<>();

    Model() {
        now = parse("c0,9;c1,0;c2,1;c0,1;c3,2;c1,3;n5,036214;n3,550000;n4,909090;n5,444444;", new int[1]);
    }

    static int cut(int belief) { return belief < 0 ? 0 : belief > 9 ? 9 : belief; }

    static State parse(String text, int[] fault) {
        State s = new State();
        List<String> rows = new ArrayList<>();
        int from = 0;
        Matcher m = ITEM.matcher(text);
        while (from < text.length()) {
            fault[0] = from;
            if (!m.find(from) || m.start() != from) return null;
            if (m.group(1) != null) {
                int kind = Integer.parseInt(m.group(1)), heeds = Integer.parseInt(m.group(2));
                if (kind > 3 || heeds > 6 && heeds != 9 || s.size() == 7) return null;
                s.order.add(s.size());
                s.cast.add(new int[] {kind, heeds});
            } else {
                int place = Integer.parseInt(m.group(3));
                if (place >= s.size() || m.group(4).length() != s.size() || rows.size() == 6) return null;
                s.at.add(place);
                rows.add(m.group(4));
            }
            from = m.end();
        }
        fault[0] = NONE;
        for (String row : rows) {
            int[] beliefs = new int[s.size()];
            for (int c = 0; c < row.length(); c++) beliefs[c] = row.charAt(c) - '0';
            s.beliefs.add(beliefs);
        }
        for (int c = 0; c < s.size(); c++) {
            int heeds = s.cast.get(c)[1];
            if (heeds == c || heeds >= s.size()) s.cast.get(c)[1] = NONE;
        }
        return s;
    }

    private boolean c(int c) { return c >= 0 && c < now.size(); }
    private boolean n(int n) { return n >= 0 && n < now.newsSize(); }
    private static boolean in(int v, int a, int b) { return a <= v && v <= b; }
    private void act() {
        undone.push(now.copy());
        if (undone.size() > 8) undone.removeLast();
    }

    int write(int letter) {
        if (!in(letter, 32, 126)) return BAD;
        if (text.length() == 200) return FULL;
        text += (char) letter;
        return text.length();
    }
    int wipe() { int was = text.length(); text = ""; return was; }
    int fault() { int[] fault = {NONE}; parse(text, fault); return fault[0]; }
    int lay() {
        State s = parse(text, new int[1]);
        if (s == null || s.size() == 0 || s.newsSize() == 0) return NO;
        now = s;
        undone.clear();
        kept.clear();
        seen.clear();
        return s.size();
    }
    int courtier(int c, int what) {
        if (!c(c) || !in(what, 0, 4)) return BAD;
        if (what < 2) return now.cast.get(c)[what];
        if (what == 2) return now.order.indexOf(c);
        int bits = 0;
        for (int n = 0; n < now.newsSize(); n++) {
            if (what == 3 ? now.at.get(n) == c : now.doubts(c, n)) bits += 1 << n;
        }
        return bits;
    }
    int news(int n, int what) {
        if (!n(n) || !in(what, 0, 1)) return BAD;
        return what == 0 ? now.at.get(n) : doubters(n);
    }
    private int doubters(int n) {
        int bits = 0;
        for (int c = 0; c < now.size(); c++) if (now.doubts(c, n)) bits += 1 << c;
        return bits;
    }
    int belief(int c, int n) { return c(c) && n(n) ? now.beliefs.get(n)[c] : BAD; }

    int pass(int n) {
        if (!in(n, 1, 24)) return BAD;
        if (now.days + n > 999) return NO;
        act();
        now = now.later(n);
        return now.knownInAll();
    }
    int prove(int c, int n, int v) {
        if (!c(c) || !n(n) || !in(v, -9, 9)) return BAD;
        int was = now.beliefs.get(n)[c], then = cut(was + v);
        if (was == then) return NO;
        act();
        return now.beliefs.get(n)[c] = then;
    }
    int hand(int n, int c) {
        if (!c(c) || !n(n)) return BAD;
        int was = now.at.get(n);
        if (was == 9 || was == c) return NO;
        act();
        now.at.set(n, c);
        return was;
    }
    int swap(int c, int d) {
        if (!c(c) || !c(d) || c == d) return BAD;
        act();
        now.change(c, d);
        return now.order.indexOf(c);
    }
    int undo() {
        if (undone.isEmpty()) return NO;
        now = undone.pop();
        return undone.size();
    }

    int behind(int days, int n, int c) {
        if (!in(days, 0, 40) || !n(n) || c != -1 && !c(c)) return BAD;
        State s = now.later(days);
        return c < 0 ? s.at.get(n) : s.beliefs.get(n)[c];
    }
    int comes(int n) { return n(n) ? now.comes(n) : BAD; }
    int first() {
        for (int days = 1; days <= 60; days++) {
            for (int n = 0; n < now.newsSize(); n++) if (now.comes(n) == days) return n;
        }
        return NONE;
    }
    int hush(int n, int days, int what) { return set(n, days, what, 9, false); }
    int loose(int n, int days, int what) { return set(n, days, what, 0, true); }
    private int set(int n, int days, int what, int belief, boolean wanted) {
        if (!n(n) || !in(days, 1, 20) || !in(what, 0, 1)) return BAD;
        if (now.known(n)) return NO;
        for (int size = 0; size <= now.size(); size++) {
            for (int set = 0; set < 1 << now.size(); set++) {
                if (Integer.bitCount(set) != size) continue;
                State s = now.copy();
                for (int c = 0; c < now.size(); c++) {
                    if ((set >> c) % 2 == 1) s.beliefs.get(n)[c] = belief;
                }
                if (s.later(days).known(n) == wanted) return what == 0 ? size : set;
            }
        }
        return NONE;
    }
    int sooner(int n, int what) {
        if (!n(n) || !in(what, 0, 1)) return BAD;
        if (now.known(n)) return NO;
        int asItIs = now.comes(n);
        int best = asItIs == NONE ? 61 : asItIs, pair = NONE;
        for (int c = 0; c < now.size(); c++) {
            for (int d = c + 1; d < now.size(); d++) {
                State s = now.copy();
                s.change(c, d);
                int days = s.comes(n);
                if (days != NONE && days < best) {
                    best = days;
                    pair = 10 * c + d;
                }
            }
        }
        return pair == NONE || what == 0 ? pair : best;
    }
    int offices(int n) {
        if (n != -1 && !n(n)) return BAD;
        int[] best = null;
        best = way(new int[now.newsSize()], 0, 0, best);
        if (n >= 0) return best[n];
        int given = 0;
        for (int who : best) if (who != NONE) given++;
        return given;
    }
    private int[] way(int[] so, int n, int taken, int[] best) {
        if (n == so.length) return best == null || given(so) > given(best) ? so.clone() : best;
        for (int c = 0; c < now.size(); c++) {
            if (!now.known(n) && now.doubts(c, n) && (taken >> c) % 2 == 0) {
                so[n] = c;
                best = way(so, n + 1, taken + (1 << c), best);
            }
        }
        so[n] = NONE;
        return way(so, n + 1, taken, best);
    }
    private static int given(int[] way) {
        int given = 0;
        for (int who : way) if (who != NONE) given++;
        return given;
    }
    int mute() {
        int bits = 0;
        for (int n = 0; n < now.newsSize(); n++) if (!now.known(n) && doubters(n) == 0) bits += 1 << n;
        return bits;
    }

    int see(int c, int days) {
        if (!c(c) && c != 9 || !in(days, 0, 20)) return BAD;
        if (seen.size() == 6) return FULL;
        seen.add(new int[] {c, days});
        return seen.size();
    }
    int forget() { int were = seen.size(); seen.clear(); return were; }
    private boolean so(State s, int n) {
        for (int[] one : seen) if (s.later(one[1]).at.get(n) != one[0]) return false;
        return true;
    }
    int which() {
        int bits = 0;
        for (int n = 0; n < now.newsSize(); n++) if (so(now, n)) bits += 1 << n;
        return bits;
    }
    int kinds(int c, int n) {
        if (!c(c) || !n(n)) return BAD;
        int bits = 0;
        for (int kind = 0; kind < 4; kind++) {
            State s = now.copy();
            s.cast.get(c)[0] = kind;
            if (so(s, n)) bits += 1 << kind;
        }
        return bits;
    }

    int tongues(int n, int days, int x, int part) {
        if (!n(n) || !in(days, 0, 8) || !in(x, 0, 10) || !in(part, 0, 1)) return BAD;
        BigInteger above = BigInteger.ZERO, below = BigInteger.TEN.pow(days);
        for (int slips = 0; slips < 1 << days; slips++) {
            State s = now.copy();
            BigInteger weight = BigInteger.ONE;
            for (int day = 0; day < days; day++) {
                boolean slip = (slips >> day) % 2 == 1;
                weight = weight.multiply(BigInteger.valueOf(slip ? x : 10 - x));
                int low = 0;
                while (low < s.newsSize() && s.known(low)) low++;
                if (slip && low < s.newsSize()) s.up(low);
                s.day();
            }
            if (s.known(n)) above = above.add(weight);
        }
        BigInteger common = above.gcd(below);
        return (part == 0 ? above : below).divide(common).intValueExact();
    }
    int reign(int z, int n, int what) {
        if (!in(z, 0, 9999) || !in(n, 1, 60) || !in(what, 0, 1)) return BAD;
        State s = now.copy();
        for (int k = 0; k < n; k++) {
            BigInteger x = BigInteger.valueOf(7919L * z + 6151L * k + 1);
            int draw = x.multiply(x).mod(BigInteger.valueOf(65521)).intValueExact();
            int c = draw / 8 % s.size(), m = draw / 64 % s.newsSize(), d = draw / 64 % s.size();
            int kind = draw % 8;
            if (kind == 0) s.beliefs.get(m)[c] = cut(s.beliefs.get(m)[c] + 3);
            if (kind == 1) s.beliefs.get(m)[c] = cut(s.beliefs.get(m)[c] - 3);
            if (kind == 2 && !s.known(m)) s.at.set(m, c);
            if (kind == 3 && c != d) s.change(c, d);
            s.day();
        }
        return what == 0 ? s.knownInAll() : s.beliefsInAll();
    }
    int keep() {
        if (kept.size() == 2) return FULL;
        kept.push(now.copy());
        return kept.size();
    }
    int back() {
        if (kept.isEmpty()) return NO;
        now = kept.pop();
        undone.clear();
        return kept.size();
    }
    int count(int what) {
        switch (what) {
            case 0: return now.size();
            case 1: return now.newsSize();
            case 2: return now.days;
            case 3: return now.knownInAll();
            case 4: return now.beliefsInAll();
            case 5: return seen.size();
            case 6: return undone.size();
            case 7: return kept.size();
            case 8: return text.length();
            default: return BAD;
        }
    }
}
