import java.util.ArrayList;
import java.util.Arrays;
import java.util.HashMap;
import java.util.LinkedHashMap;
import java.util.List;
import java.util.Map;

/**
 * The document once more, told as plainly as the Java library lets one: copies of whole towns, all plans written
 * out, all rows of errands tried, rules read from a String. It shares nothing with HeartHours, so where the two
 * answer alike, a slip would have to be made twice.
 */
final class Model {
    static final int BAD = -1, FULL = -2, NONE = -3, STATE = -4;
    static final List<String> KINDS = List.of("guild", "baker", "lawyer", "doctor", "book", "candle");
    static final List<String> DOINGS = List.of("come", "wait", "leave");

    static final class Refusal extends RuntimeException {
        private static final long serialVersionUID = 1L;
        final int code;
        Refusal(int code) { super("" + code); this.code = code; }
    }

    static final class G {
        int kind, due, gift, street;
        boolean waits = true, done;
        G copy() {
            G g = new G();
            g.kind = kind; g.due = due; g.gift = gift; g.street = street; g.waits = waits; g.done = done;
            return g;
        }
    }

    interface Cond { boolean is(Map<String, Integer> facts); }

    static final class R { int kind, doing; Cond cond; }

    static final class T {
        int hour, end = 12, score, mood = 5, hands, z = 1;
        int[] news = new int[16], shift = new int[6], bear = new int[6];
        List<G> guilds = new ArrayList<>();
        List<R> rules = new ArrayList<>();
        List<int[]> reports = new ArrayList<>();
        T() { Arrays.fill(news, 4); Arrays.fill(bear, 3); }
        T copy() {
            T t = new T();
            t.hour = hour; t.end = end; t.score = score; t.mood = mood; t.hands = hands; t.z = z;
            t.news = news.clone(); t.shift = shift.clone(); t.bear = bear.clone();
            for (G g : guilds) t.guilds.add(g.copy());
            t.rules.addAll(rules);
            t.reports.addAll(reports);
            return t;
        }
        boolean over() { return hour >= end; }
        int place(int k) { return guilds.get(k).due + shift[guilds.get(k).street]; }
        int late(int k) { return Math.abs(hands - place(k)); }
        boolean inTime(int k) { return late(k) <= bear[guilds.get(k).street]; }
        int set(boolean ofDone) {
            int s = 0;
            for (int k = 0; k < guilds.size(); k++) if (ofDone ? guilds.get(k).done : guilds.get(k).waits) s |= 1 << k;
            return s;
        }
        int will(int k) {
            G g = guilds.get(k);
            Map<String, Integer> f = new HashMap<>();
            f.put("hour", hour); f.put("gift", g.gift); f.put("late", late(k)); f.put("mood", mood); f.put("number", k);
            for (R r : rules) if (under(g.kind, r.kind) && (r.cond == null || r.cond.is(f))) return r.doing;
            return 0;
        }
        void newsComes() { mood = moodBy(news[hour], mood); }
        int told(int k) {
            G g = guilds.get(k);
            if (!g.waits) return 0;
            int will = will(k);
            if (will == 1) return 0;
            g.waits = false;
            if (will == 2) return 1;
            mood = hold(mood + cheers(g.kind, g.gift, hour));
            if (!inTime(k)) return 0;
            g.done = true;
            int more = 9 - late(k);
            return pays(g.kind, k) + (more < 0 ? 0 : more);
        }
        void clockGoes() {
            hands += 6 - mood / 2;
            if (hands > 99) hands = 99;
            hour++;
        }
        int byAct(int a) {
            newsComes();
            int w = a == 0 ? 0 : told(a - 1);
            clockGoes();
            score += w;
            return w;
        }
        int byRest() {
            newsComes();
            int w = 0;
            for (int k = 0; k < guilds.size(); k++) {
                if (guilds.get(k).waits && inTime(k)) { w = told(k); break; }
            }
            clockGoes();
            score += w;
            return w;
        }
        int byLot() {
            z = z * 1103515245 + 12345;
            return byAct((z >>> 16) % (guilds.size() + 1));
        }
        int rest() {
            T t = copy();
            int w = 0;
            while (!t.over()) w += t.byRest();
            return w;
        }
    }

    static int hold(int m) { return m < 0 ? 0 : m > 9 ? 9 : m; }

    static int moodBy(int news, int mood) {
        int force = news / 4;
        switch (news % 4) {
            case 0: return hold(mood + force);
            case 1: return hold(mood - force);
            case 2:
                for (int i = 0; i < force; i++) mood += Integer.compare(5, mood);
                return mood;
            default: return mood;
        }
    }

    static boolean under(int kind, int above) {
        if (kind == above || above == 0) return true;
        return kind == 3 && above == 2 || kind == 5 && above == 4;
    }

    static int cheers(int kind, int gift, int hour) {
        int third = gift / 3;
        switch (kind) {
            case 1: return third * 2;
            case 2: return third - 3;
            case 3: return third - 3 + (hour % 2 == 0 ? 4 : 0);
            case 4: return third + 1 > 2 ? 2 : third + 1;
            case 5: return hour % 3 == 1 ? 0 : third + 1 > 2 ? 2 : third + 1;
            default: return third;
        }
    }

    static int pays(int kind, int number) {
        switch (kind) {
            case 1: return 6;
            case 2: return 4 + number;
            case 3: return 8 + 2 * number;
            case 4: return 3;
            case 5: return 1;
            default: return 4;
        }
    }

    T t = new T();
    T kept;
    final StringBuilder tape = new StringBuilder();
    List<int[]> rows = new ArrayList<>();
    final Object[] sheets = new Object[4];
    final Object[] shelves = new Object[4];
    List<Integer> trace = new ArrayList<>();

    private boolean no(int k) { return k < 0 || k >= t.guilds.size(); }
    private static boolean off(int v, int least, int most) { return v < least || v > most; }

    int guild(int kind, int due, int gift, int street) {
        if (off(kind, 1, 5) || off(due, 0, 60) || off(gift, 0, 9) || off(street, 0, 5)) return BAD;
        if (t.guilds.size() == 6) return FULL;
        G g = new G();
        g.kind = kind; g.due = due; g.gift = gift; g.street = street;
        t.guilds.add(g);
        return t.guilds.size() - 1;
    }

    int guildOf(int k, int what) {
        if (no(k) || off(what, 0, 9)) return BAD;
        G g = t.guilds.get(k);
        return new int[] {g.kind, g.due, g.gift, g.street, g.waits ? 1 : 0, g.done ? 1 : 0,
            10 + cheers(g.kind, g.gift, t.hour), pays(g.kind, k), t.will(k), t.late(k)}[what];
    }

    int change(int k, int what, int v) {
        if (no(k) || off(what, 1, 5) || off(v, 0, new int[] {0, 60, 9, 5, 1, 1}[what])) return BAD;
        int was = guildOf(k, what);
        G g = t.guilds.get(k);
        if (what == 1) g.due = v;
        if (what == 2) g.gift = v;
        if (what == 3) g.street = v;
        if (what == 4) g.waits = v == 1;
        if (what == 5) g.done = v == 1;
        return was;
    }

    int remake(int k, int kind) {
        if (no(k) || off(kind, 1, 5)) return BAD;
        int was = t.guilds.get(k).kind;
        t.guilds.get(k).kind = kind;
        return was;
    }

    int news(int hour, int v) {
        if (off(hour, 0, 15) || off(v, 0, 15)) return BAD;
        int was = t.news[hour];
        t.news[hour] = v;
        return was;
    }

    int street(int f, int what, int v) {
        if (off(f, 0, 5) || off(what, 0, 1) || off(v, 0, what == 0 ? 9 : 14)) return BAD;
        int[] of = what == 0 ? t.shift : t.bear;
        int was = of[f];
        of[f] = v;
        return was;
    }

    int streetOf(int f, int what) {
        if (off(f, 0, 5) || off(what, 0, 1)) return BAD;
        return (what == 0 ? t.shift : t.bear)[f];
    }

    int heart(int what, int v) {
        if (off(what, 0, 1) || off(v, 0, what == 0 ? 9 : 99)) return BAD;
        int was = what == 0 ? t.mood : t.hands;
        if (what == 0) t.mood = v; else t.hands = v;
        return was;
    }

    int ends(int v) {
        if (off(v, 1, 16)) return BAD;
        if (v < t.hour) return STATE;
        int was = t.end;
        t.end = v;
        return was;
    }

    int anew() {
        int was = t.hour;
        t.hour = 0; t.score = 0; t.mood = 5; t.hands = 0;
        for (G g : t.guilds) { g.waits = true; g.done = false; }
        return was;
    }

    int state(int what) {
        if (off(what, 0, 8)) return BAD;
        return new int[] {t.hour, t.end, t.score, t.over() ? 1 : 0, t.set(false), t.set(true),
            t.hour > 15 ? 0 : t.news[t.hour], t.mood, t.hands}[what];
    }

    int feed(long eight, int n) {
        if (off(n, 1, 8)) return BAD;
        if (tape.length() + n > 200) return FULL;
        for (int i = 0; i < n; i++) { tape.append((char) (eight & 255)); eight >>= 8; }
        return tape.length();
    }

    int rules() {
        String text = tape.toString();
        tape.setLength(0);
        List<R> read = new ArrayList<>();
        try {
            Reading reading = new Reading(text);
            while (!reading.word().isEmpty()) {
                if (read.size() == 8) throw reading.fault();
                read.add(reading.rule());
            }
        } catch (Refusal fault) {
            return -100 - fault.code;
        }
        t.rules = read;
        return read.size();
    }

    /** Reads straight from the text, a word at a time; the word at the end is the empty one. */
    static final class Reading {
        final String text;
        int at;
        Reading(String text) { this.text = text; blanks(); }
        void blanks() { while (at < text.length() && text.charAt(at) == ' ') at++; }
        String word() {
            if (at == text.length()) return "";
            String s = text.substring(at);
            String row = s.replaceFirst("(?s)^([a-z]+|[0-9]+|.).*$", "$1");
            return row;
        }
        Refusal fault() { return new Refusal(at); }
        String take() {
            String w = word();
            if (w.isEmpty()) throw fault();
            at += w.length();
            blanks();
            return w;
        }
        boolean sees(String w) { return word().equals(w); }
        void want(String w) {
            if (!sees(w)) throw fault();
            take();
        }
        int oneOf(List<String> words) {
            int i = words.indexOf(word());
            if (i < 0) throw fault();
            take();
            return i;
        }
        R rule() {
            R r = new R();
            r.kind = oneOf(KINDS);
            if (sees("if")) { take(); r.cond = cond(0); }
            r.doing = oneOf(DOINGS);
            want(";");
            return r;
        }
        Cond cond(int open) {
            Cond left = all(open);
            while (sees("or")) {
                take();
                Cond a = left, b = all(open);
                left = f -> a.is(f) || b.is(f);
            }
            return left;
        }
        Cond all(int open) {
            Cond left = one(open);
            while (sees("and")) {
                take();
                Cond a = left, b = one(open);
                left = f -> a.is(f) && b.is(f);
            }
            return left;
        }
        Cond one(int open) {
            if (sees("not")) {
                take();
                Cond c = one(open);
                return f -> !c.is(f);
            }
            if (sees("(")) {
                if (open == 3) throw fault();
                take();
                Cond c = cond(open + 1);
                want(")");
                return c;
            }
            String left = value();
            int sign = oneOf(List.of("<", "=", ">"));
            String right = value();
            return f -> Integer.signum(Integer.compare(of(left, f), of(right, f))) == sign - 1;
        }
        String value() {
            if (!word().matches("[0-9]{1,4}|hour|gift|late|mood|number")) throw fault();
            return take();
        }
        static int of(String value, Map<String, Integer> facts) {
            Integer fact = facts.get(value);
            return fact == null ? Integer.parseInt(value) : fact;
        }
    }

    int hour() { return t.over() ? STATE : t.byRest(); }

    int on(int n) {
        if (off(n, 0, 16)) return BAD;
        T c = t.copy();
        int w = 0;
        for (int i = 0; i < n && !c.over(); i++) w += c.byRest();
        return w;
    }

    int when(int k) {
        if (no(k)) return BAD;
        if (!t.guilds.get(k).waits) return NONE;
        T c = t.copy();
        while (!c.over()) {
            c.byRest();
            if (!c.guilds.get(k).waits) return c.hour - 1;
        }
        return NONE;
    }

    int giftFor(int k) { return no(k) ? BAD : bestOf(k, 2, 9); }

    int dueFor(int k) { return no(k) ? BAD : bestOf(k, 1, 60); }

    private int bestOf(int k, int what, int most) {
        int was = guildOf(k, what);
        Map<Integer, Integer> firsts = new LinkedHashMap<>();
        for (int v = 0; v <= most; v++) {
            change(k, what, v);
            firsts.putIfAbsent(t.rest(), v);
        }
        change(k, what, was);
        return firsts.get(firsts.keySet().stream().max(Integer::compare).get());
    }

    int shows(int v) {
        if (off(v, 0, 99)) return BAD;
        T c = t.copy();
        while (!c.over()) {
            c.byAct(0);
            if (c.hands >= v) return c.hour - 1;
        }
        return NONE;
    }

    int right(int what) {
        if (off(what, 0, 1)) return BAD;
        T c = t.copy();
        int zeros = 0, sum = 0;
        while (!c.over()) {
            c.byRest();
            int o = Math.abs(c.hands - 4 * c.hour);
            sum += o;
            if (o == 0) zeros++;
        }
        return what == 0 ? zeros : sum;
    }

    int queues(int what) {
        if (what != -1 && no(what)) return BAD;
        int[] mark = new int[t.guilds.size()];
        for (int k = 0; k < mark.length; k++) mark[k] = k;
        for (int a = 0; a < mark.length; a++) {
            for (int b = 0; b < mark.length; b++) {
                if (t.guilds.get(a).waits && t.guilds.get(b).waits && Math.abs(t.place(a) - t.place(b)) < 3) {
                    int from = mark[a], to = mark[b];
                    for (int c = 0; c < mark.length; c++) if (mark[c] == from) mark[c] = to;
                }
            }
        }
        Map<Integer, Integer> sets = new HashMap<>();
        for (int k = 0; k < mark.length; k++) if (t.guilds.get(k).waits) sets.merge(mark[k], 1 << k, (x, y) -> x | y);
        if (what == -1) return sets.size();
        return t.guilds.get(what).waits ? sets.get(mark[what]) : 0;
    }

    int errands(int quarter, int what) {
        if (off(quarter, 0, 99) || off(what, 0, 1)) return BAD;
        List<Integer> gone = new ArrayList<>();
        for (int k = 0; k < t.guilds.size(); k++) if (!t.guilds.get(k).waits) gone.add(k);
        if (gone.isEmpty()) return what == 0 ? 0 : NONE;
        int[] best = {Integer.MAX_VALUE, -1};
        permute(quarter, 0, -1, gone, best);
        return best[what];
    }

    private void permute(int at, int walked, int first, List<Integer> left, int[] best) {
        if (left.isEmpty()) {
            if (walked < best[0]) { best[0] = walked; best[1] = first; }
            return;
        }
        for (int k : left) {
            List<Integer> others = new ArrayList<>(left);
            others.remove((Integer) k);
            permute(t.place(k), walked + Math.abs(t.place(k) - at), first < 0 ? k : first, others, best);
        }
    }

    /** A plan with its worth and the guilds done behind it. */
    static final class P { List<Integer> acts = new ArrayList<>(); int worth, done; }

    private List<P> plans(int n) {
        List<P> all = new ArrayList<>();
        walk(t.copy(), n, new P(), all);
        return all;
    }

    private void walk(T at, int n, P so, List<P> all) {
        if (n == 0 || at.over()) {
            so.done = at.set(true);
            all.add(so);
            return;
        }
        for (int a = 0; a <= at.guilds.size(); a++) {
            T next = at.copy();
            P p = new P();
            p.acts.addAll(so.acts);
            p.acts.add(a);
            p.worth = so.worth + next.byAct(a);
            walk(next, n - 1, p, all);
        }
    }

    private List<P> bests(int n) {
        List<P> all = plans(n);
        int most = all.stream().mapToInt(p -> p.worth).max().getAsInt();
        all.removeIf(p -> p.worth < most);
        return all;
    }

    int best(int n) { return off(n, 0, 4) ? BAD : bests(n).get(0).worth; }

    int ith(int n, int i) {
        if (off(n, 0, 4) || off(i, 0, 3)) return BAD;
        List<Integer> acts = bests(n).get(0).acts;
        return i < acts.size() ? acts.get(i) : NONE;
    }

    int ways(int n) { return off(n, 0, 4) ? BAD : bests(n).size(); }

    private boolean noSet(int guilds) { return guilds < 0 || guilds >> t.guilds.size() != 0; }

    int charter(int n, int guilds) {
        if (off(n, 0, 4) || noSet(guilds)) return BAD;
        return plans(n).stream().filter(p -> (p.done & guilds) == guilds)
            .mapToInt(p -> (int) p.acts.stream().filter(a -> a != 0).count()).min().orElse(NONE);
    }

    int bars(int n, int guilds) {
        if (off(n, 0, 4) || noSet(guilds)) return BAD;
        List<P> all = plans(n);
        for (int k = 0; k < 6; k++) {
            int g = 1 << k;
            if ((guilds & g) != 0 && all.stream().noneMatch(p -> (p.done & g) != 0)) return k;
        }
        return NONE;
    }

    private static int[] values(T at, int n, boolean most) {
        if (n == 0 || at.over()) return new int[0];
        int[] v = new int[at.guilds.size() + 1];
        for (int a = 0; a < v.length; a++) {
            T next = at.copy();
            v[a] = next.byAct(a);
            v[a] += value(values(next, n - 1, !most), !most);
        }
        return v;
    }

    private static int value(int[] values, boolean most) {
        if (values.length == 0) return 0;
        return most ? Arrays.stream(values).max().getAsInt() : Arrays.stream(values).min().getAsInt();
    }

    int game(int n) { return off(n, 1, 4) ? BAD : value(values(t, n, true), true); }

    int play(int n) {
        if (off(n, 1, 4)) return BAD;
        if (t.over()) return NONE;
        int[] v = values(t, n, true);
        int a = 0;
        while (v[a] != value(v, true)) a++;
        return a;
    }

    int report(int k, int asked, int least, int most) {
        if (off(k, 0, 15) || off(asked, 0, 1)) return BAD;
        int top = asked == 0 ? 99 : 9;
        if (off(least, 0, top) || off(most, 0, top) || most < least) return BAD;
        if (t.reports.size() == 6) return FULL;
        t.reports.add(new int[] {k, asked, least, most});
        return t.reports.size() - 1;
    }

    int forget() {
        int was = t.reports.size();
        t.reports = new ArrayList<>();
        return was;
    }

    private List<int[]> fitting(List<int[]> reports) {
        List<int[]> fit = new ArrayList<>();
        for (int kind = 1; kind < 6; kind++) {
            for (int gift = 0; gift < 10; gift++) {
                for (int mood = 0; mood < 10; mood++) {
                    if (fits(kind, gift, mood, reports)) fit.add(new int[] {kind, gift, mood});
                }
            }
        }
        return fit;
    }

    private boolean fits(int kind, int gift, int firstMood, List<int[]> reports) {
        for (int[] r : reports) {
            int mood = firstMood, hands = 0;
            for (int h = 0; h < r[0]; h++) {
                mood = moodBy(t.news[h], mood);
                if (h % 2 == 0) mood = hold(mood + cheers(kind, gift, h));
                hands = Math.min(99, hands + 6 - mood / 2);
            }
            if (off(r[1] == 0 ? hands : mood, r[2], r[3])) return false;
        }
        return true;
    }

    int cause(int what) {
        if (off(what, 0, 3)) return BAD;
        List<int[]> fit = fitting(t.reports);
        if (what == 0) return fit.size();
        return fit.isEmpty() ? NONE : fit.get(0)[what - 1];
    }

    int liar() {
        if (!fitting(t.reports).isEmpty()) return NONE;
        for (int r = 0; r < t.reports.size(); r++) {
            List<int[]> others = new ArrayList<>(t.reports);
            others.remove(r);
            if (!fitting(others).isEmpty()) return r;
        }
        return NONE;
    }

    int seed(int v) {
        int was = t.z;
        t.z = v;
        return was;
    }

    int lot() { return t.over() ? STATE : t.byLot(); }

    int times(int n, int v) {
        if (off(n, 1, 40) || off(v, 0, 999)) return BAD;
        int z = t.z, count = 0;
        for (int i = 0; i < n; i++) {
            T c = t.copy();
            c.z = z;
            int w = 0;
            while (!c.over()) w += c.byLot();
            z = c.z;
            if (w >= v) count++;
        }
        return count;
    }

    int prove(int n) {
        if (off(n, 0, 4)) return BAD;
        rows = new ArrayList<>();
        T c = t.copy();
        for (int a : bests(n).get(0).acts) {
            int w = c.byAct(a);
            rows.add(new int[] {a, w, c.set(true)});
        }
        return rows.size();
    }

    int row(int k, int what) { return off(k, 0, rows.size() - 1) || off(what, 0, 2) ? -9 : rows.get(k)[what]; }

    int alterRow(int k, int what, int v) {
        int was = row(k, what);
        if (!off(k, 0, rows.size() - 1) && !off(what, 0, 2)) rows.get(k)[what] = v;
        return was;
    }

    int judge() {
        T c = t.copy();
        for (int k = 0; k < rows.size(); k++) {
            int[] r = rows.get(k);
            if (off(r[0], 0, t.guilds.size()) || c.over()) return k + 1;
            if (c.byAct(r[0]) != r[1] || c.set(true) != r[2]) return k + 1;
        }
        return 0;
    }

    int sheet(int sheet, int sort, int n) {
        if (off(sheet, 0, 3) || off(sort, -1, 4) || sort != -1 && n > 40) return BAD;
        if (sort != -1 && n < 0) return -14;
        switch (sort) {
            case 0: sheets[sheet] = new byte[n]; break;
            case 1: sheets[sheet] = new short[n]; break;
            case 2: sheets[sheet] = new int[n]; break;
            case 3: sheets[sheet] = new long[n]; break;
            case 4: sheets[sheet] = new boolean[n]; break;
            default: sheets[sheet] = null; break;
        }
        return 1;
    }

    // Here the Java machine itself is asked what it refuses: the document's host is modelled on it.

    int write(int sheet, int i, int v) {
        if (off(sheet, 0, 3)) return BAD;
        Object row = sheets[sheet];
        if (row == null) return -11;
        try {
            if (row instanceof byte[]) ((byte[]) row)[i] = (byte) v;
            else if (row instanceof short[]) ((short[]) row)[i] = (short) v;
            else if (row instanceof int[]) ((int[]) row)[i] = v;
            else if (row instanceof long[]) ((long[]) row)[i] = v;
            else ((boolean[]) row)[i] = v != 0;
            return 1;
        } catch (ArrayIndexOutOfBoundsException e) {
            return -12;
        }
    }

    int item(int sheet, int sort, int i) {
        if (off(sheet, 0, 3) || off(sort, 0, 4)) return BAD;
        Object row = sheets[sheet];
        try {
            switch (sort) {
                case 0: return ((byte[]) row)[i];
                case 1: return ((short[]) row)[i];
                case 2: return ((int[]) row)[i];
                case 3: return (int) ((long[]) row)[i];
                default: return ((boolean[]) row)[i] ? 1 : 0;
            }
        } catch (ClassCastException e) {
            return -13;
        } catch (NullPointerException e) {
            return -11;
        } catch (ArrayIndexOutOfBoundsException e) {
            return -12;
        }
    }

    int goAll(int sheet, int i, int n) {
        if (off(sheet, 0, 3) || off(n, 0, 20)) return BAD;
        try {
            byte[] row = (byte[]) sheets[sheet];
            int w = 0;
            if (row.length < 0) return 0;
            for (int j = 0; j < n; j++) {
                int a = row[i + j];
                if (!off(a, 0, t.guilds.size()) && !t.over()) w += t.byAct(a);
            }
            return w;
        } catch (ClassCastException e) {
            return -13;
        } catch (NullPointerException e) {
            return -11;
        } catch (ArrayIndexOutOfBoundsException e) {
            return -12;
        }
    }

    int wouldBe(int sheet, int i, int n) {
        if (off(sheet, 0, 3) || off(n, 0, 20)) return BAD;
        if (sheets[sheet] == null) return -11;
        if (!(sheets[sheet] instanceof byte[])) return -13;
        byte[] row = (byte[]) sheets[sheet];
        T c = t.copy();
        int w = 0;
        for (int j = 0; j < n; j++) {
            if (off(i, 0, row.length - 1 - j)) return -12;
            if (off(row[i + j], 0, t.guilds.size()) || c.over()) return STATE;
            w += c.byAct(row[i + j]);
        }
        return w;
    }

    int shelf(int shelf, int what, int n) {
        if (off(shelf, 0, 3) || off(what, 0, 2)) return BAD;
        if (what == 0 && no(n) || what == 1 && off(n, 0, 3)) return BAD;
        shelves[shelf] = what == 0 ? (Object) n : what == 1 ? sheets[n] : null;
        return 1;
    }

    private Object on4(int shelf) {
        Object o = shelves[shelf];
        return o instanceof Integer && no((Integer) o) ? null : o;
    }

    int taken(int shelf, int as) {
        if (off(shelf, 0, 3) || off(as, 0, 14) || as > 5 && as < 10) return BAD;
        Object o = on4(shelf);
        if (o == null) return -11;
        if (as < 6) {
            if (!(o instanceof Integer) || !under(t.guilds.get((Integer) o).kind, as)) return -13;
            return (Integer) o;
        }
        if (as == 10 && o instanceof byte[]) return ((byte[]) o).length;
        if (as == 11 && o instanceof short[]) return ((short[]) o).length;
        if (as == 12 && o instanceof int[]) return ((int[]) o).length;
        if (as == 13 && o instanceof long[]) return ((long[]) o).length;
        if (as == 14 && o instanceof boolean[]) return ((boolean[]) o).length;
        return -13;
    }

    /** Things that act, by kind, told by cases; the machine's own division says when it is parted by 0. */
    private final class Thing {
        final int kind, n, a;
        Thing(int k) { kind = t.guilds.get(k).kind; n = k; a = t.guilds.get(k).street; }
        int knocks(int x) {
            if (kind == 1) { trace.add(20); return baseKnocks(x) - 3; }
            if (kind == 3) { trace.add(50); return baseKnocks(x) ^ 9; }
            return baseKnocks(x);
        }
        int baseKnocks(int x) { trace.add(10); return x * 3 - n; }
        int tells(int x) {
            if (kind == 2 || kind == 3) { trace.add(30); return baseTells(x - n); }
            if (kind == 5) { trace.add(60); return baseTells(x) * n; }
            return baseTells(x);
        }
        int baseTells(int x) { trace.add(11); return knocks(x) + 2 * a; }
        int thanks(int x) {
            if (kind == 4) return bookThanks(x);
            if (kind == 5) { trace.add(61); return bookThanks(x) + knocks(a); }
            return baseThanks(x);
        }
        int bookThanks(int x) { trace.add(40); return 1 - baseThanks(x); }
        int baseThanks(int x) { trace.add(12); return x % (a - n); }
        int deals(int x) {
            if (kind == 3) { trace.add(51); return baseDeals(x) - tells(a); }
            return baseDeals(x);
        }
        int baseDeals(int x) { trace.add(13); return tells(x) ^ thanks(x); }
    }

    int act(int shelf, int act, int x) {
        trace = new ArrayList<>();
        if (off(shelf, 0, 3) || off(act, 0, 3) || !(on4(shelf) instanceof Integer)) return 0;
        Thing g = new Thing((Integer) on4(shelf));
        try {
            return act == 0 ? g.knocks(x) : act == 1 ? g.tells(x) : act == 2 ? g.thanks(x) : g.deals(x);
        } catch (ArithmeticException e) {
            return -15;
        }
    }

    int trace(int i) { return off(i, 0, Math.min(30, trace.size()) - 1) ? NONE : trace.get(i); }

    int many(int what) {
        if (off(what, 0, 6)) return BAD;
        return new int[] {t.guilds.size(), t.rules.size(), Integer.bitCount(t.set(true)), t.reports.size(),
            rows.size(), tape.length(), Math.min(30, trace.size())}[what];
    }

    int keep() {
        kept = t.copy();
        return 1;
    }

    int again() {
        if (kept == null) return NONE;
        t = kept.copy();
        return t.guilds.size();
    }
}
