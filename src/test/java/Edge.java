import java.lang.reflect.InvocationTargetException;
import java.lang.reflect.Method;
import java.lang.reflect.Modifier;
import java.util.ArrayList;
import java.util.Arrays;
import java.util.Comparator;
import java.util.HashMap;
import java.util.List;
import java.util.Map;
import java.util.Set;
import java.util.TreeSet;
import java.util.function.Supplier;

/**
 * What the edge tests share. A test is a method whose name begins with its promise (p2_..) and tells the edge; an
 * edge test's main runs all of them, and fails too if one of its promises has none.
 */
abstract class Edge {
    static final int BAD = -1, FULL = -2, NONE = -3, STATE = -4;
    static final int LOWEST = Integer.MIN_VALUE, HIGHEST = Integer.MAX_VALUE;
    private static final Map<String, Method> FACE = face();

    private String test;
    private int asked;
    private int wrong;

    private static Map<String, Method> face() {
        Map<String, Method> all = new HashMap<>();
        for (Method m : HeartHours.class.getDeclaredMethods()) {
            if (Modifier.isPublic(m.getModifiers())) all.put(m.getName(), m);
        }
        return all;
    }

    // ---- running

    final void run(int firstPromise, int lastPromise) throws Exception {
        List<Method> tests = new ArrayList<>();
        for (Method m : getClass().getDeclaredMethods()) if (m.getName().matches("p\\d+_\\w+")) tests.add(m);
        tests.sort(Comparator.comparing(Edge::promiseOf).thenComparing(Method::getName));
        Set<Integer> met = new TreeSet<>();
        for (Method m : tests) {
            test = m.getName();
            met.add(promiseOf(m));
            int before = asked;
            m.invoke(this);
            if (asked == before) say("asks nothing");
        }
        for (int p = firstPromise; p <= lastPromise; p++) {
            test = "promise " + p;
            if (!met.contains(p)) say("has no test");
        }
        System.out.println(tests.size() + " edges, " + asked + " answers asked, " + wrong + " not as due");
        if (wrong != 0) System.exit(1);
    }

    private static int promiseOf(Method m) {
        return Integer.parseInt(m.getName().substring(1, m.getName().indexOf('_')));
    }

    private void say(String what) {
        wrong++;
        System.out.println(getClass().getName() + "." + test + ": " + what);
    }

    // ---- asking

    static int ask(HeartHours x, String name, long... numbers) {
        Method m = FACE.get(name);
        Object[] arguments = new Object[numbers.length];
        for (int i = 0; i < numbers.length; i++) {
            if (m.getParameterTypes()[i] == long.class) arguments[i] = numbers[i];
            else arguments[i] = Math.toIntExact(numbers[i]);
        }
        try {
            return (Integer) m.invoke(x, arguments);
        } catch (InvocationTargetException e) {
            throw new IllegalStateException(told(name, numbers) + " threw " + e.getCause(), e.getCause());
        } catch (IllegalAccessException e) {
            throw new IllegalStateException(e);
        }
    }

    private static String told(String name, long... numbers) {
        String all = Arrays.toString(numbers);
        return name + "(" + all.substring(1, all.length() - 1) + ")";
    }

    /** The call answers so. */
    final void due(HeartHours x, int want, String name, long... numbers) {
        same(told(name, numbers), ask(x, name, numbers), want);
    }

    final void same(String what, int got, int want) {
        asked++;
        if (got != want) say(what + " answered " + got + ", due is " + want);
    }

    /** The call answers so, and changes nothing: a twin that isn't called looks alike afterwards. */
    final void still(Supplier<HeartHours> made, int want, String name, long... numbers) {
        HeartHours x = made.get();
        due(x, want, name, numbers);
        alike(told(name, numbers), x, made.get());
    }

    /** On the busy town; a refusal is told so, and what is asked only. */
    final void still(int want, String name, long... numbers) {
        still(Edge::busy, want, name, numbers);
    }

    final void refused(int want, String name, long... numbers) {
        still(Edge::busy, want, name, numbers);
    }

    final void alike(String behind, HeartHours x, HeartHours twin) {
        asked++;
        List<String> got = look(x);
        List<String> want = look(twin);
        for (int i = 0; i < got.size() && i < want.size(); i++) {
            if (!got.get(i).equals(want.get(i))) {
                say("behind " + behind + " there is " + got.get(i) + ", due is " + want.get(i));
                return;
            }
        }
        if (got.size() != want.size()) say("behind " + behind + " it looks otherwise");
    }

    // ---- looking at all that can be seen (it is used up by that: THE TAPE is read, what was kept comes back)

    static List<String> look(HeartHours x) {
        List<String> seen = new ArrayList<>();
        lookAtTown(x, seen);
        for (int k = 0; k < 4; k++) for (int what = 0; what < 3; what++) note(x, seen, "row", k, what);
        for (int i = 0; i < 12; i++) note(x, seen, "trace", i);
        for (int sheet = 0; sheet < 4; sheet++) {
            for (int sort = 0; sort < 5; sort++) {
                int first = note(x, seen, "item", sheet, sort, 0);
                for (int i = 1; i < 5 && first >= 0; i++) note(x, seen, "item", sheet, sort, i);
            }
        }
        for (int shelf = 0; shelf < 4; shelf++) {
            note(x, seen, "taken", shelf, 0);
            for (int as = 10; as <= 14; as++) note(x, seen, "taken", shelf, as);
        }
        note(x, seen, "rules");
        for (int k = 0; k < 6; k++) note(x, seen, "guildOf", k, 8);
        if (note(x, seen, "again") != NONE) lookAtTown(x, seen);
        return seen;
    }

    private static void lookAtTown(HeartHours x, List<String> seen) {
        for (int what = 0; what <= 6; what++) note(x, seen, "many", what);
        for (int what = 0; what <= 8; what++) note(x, seen, "state", what);
        int guilds = x.many(0);
        for (int k = 0; k < guilds; k++) for (int what = 0; what <= 9; what++) note(x, seen, "guildOf", k, what);
        for (int f = 0; f < 6; f++) for (int what = 0; what < 2; what++) note(x, seen, "streetOf", f, what);
        for (int what = 0; what < 4; what++) note(x, seen, "cause", what);
        note(x, seen, "liar");
        for (int h = 0; h < 16; h++) note(x, seen, "news", h, 3);
        note(x, seen, "seed", 0);
    }

    private static int note(HeartHours x, List<String> seen, String name, long... numbers) {
        int got = ask(x, name, numbers);
        seen.add(told(name, numbers) + " = " + got);
        return got;
    }

    // ---- towns to begin with

    static void feedText(HeartHours x, String text) {
        for (int i = 0; i < text.length(); i += 8) {
            int n = Math.min(8, text.length() - i);
            long eight = 0;
            for (int j = n - 1; j >= 0; j--) eight = eight << 8 | text.charAt(i + j) & 255;
            x.feed(eight, n);
        }
    }

    static int tell(HeartHours x, String text) {
        feedText(x, text);
        return x.rules();
    }

    static String times(int n, String text) {
        return text.repeat(n);
    }

    /** NEWS are none in all HOURS, so that MOOD stays as it is told, and HANDS go by 6 less half of it. */
    static HeartHours quiet(int mood) {
        HeartHours x = new HeartHours();
        for (int h = 0; h < 16; h++) x.news(h, 3);
        x.heart(0, mood);
        return x;
    }

    /** Quiet, MOOD 4 (so HANDS go 0, 4, 8, ..), and one GUILD, number 0, in STREET 0, which bears 3. */
    static HeartHours lone(int kind, int due, int gift) {
        HeartHours x = quiet(4);
        x.guild(kind, due, gift, 0);
        return x;
    }

    /** A baker without a gift that is in time in one HOUR alone, if at all, as its STREET bears nothing. */
    static HeartHours dueAt(int quarter) {
        HeartHours x = lone(1, quarter, 0);
        x.street(0, 1, 0);
        return x;
    }

    /** Quiet, MOOD 4; a baker due at 0, a book due at 4, both without gifts, in STREET 0, which bears 3. */
    static HeartHours two() {
        HeartHours x = lone(1, 0, 0);
        x.guild(4, 4, 0, 0);
        return x;
    }

    /** As two(), but one HOUR long, and that has gone by: the baker is DONE. */
    static HeartHours over() {
        HeartHours x = two();
        x.ends(1);
        x.hour();
        return x;
    }

    /** Quiet, MOOD 4; six bakers without gifts, due at 0. */
    static HeartHours six() {
        HeartHours x = quiet(4);
        for (int k = 0; k < 6; k++) x.guild(1, 0, 0, k);
        return x;
    }

    static HeartHours after(HeartHours x, int hours) {
        for (int h = 0; h < hours; h++) x.hour();
        return x;
    }

    /** Something of all there can be: five guilds of HOUR 2, rules, reports, rows, sheets, shelves; another town kept. */
    static HeartHours busy() {
        HeartHours x = busyWithoutTape();
        feedText(x, "book come;");
        return x;
    }

    static HeartHours busyWithoutTape() {
        HeartHours x = new HeartHours();
        x.guild(2, 30, 4, 3);
        x.news(5, 9);
        x.street(3, 0, 2);
        x.report(0, 1, 2, 8);
        x.seed(99);
        tell(x, "lawyer wait;");
        x.keep();
        x.remake(0, 1);
        x.change(0, 1, 6);
        x.change(0, 3, 0);
        x.guild(2, 10, 9, 1);
        x.guild(3, 16, 9, 5);
        x.guild(4, 14, 5, 3);
        x.guild(5, 20, 6, 4);
        x.street(0, 1, 6);
        x.street(4, 0, 5);
        x.news(3, 14);
        x.ends(9);
        after(x, 2);
        tell(x, "candle if hour > 1 wait; book leave;");
        x.forget();
        x.report(1, 1, 4, 9);
        x.report(2, 0, 3, 8);
        x.seed(7);
        x.prove(3);
        fillHost(x);
        return x;
    }

    private static void fillHost(HeartHours x) {
        x.sheet(0, 0, 3);
        x.write(0, 0, 1);
        x.write(0, 1, 2);
        x.write(0, 2, 77);
        x.sheet(1, 3, 2);
        x.write(1, 1, 300);
        x.sheet(2, 4, 1);
        x.shelf(0, 0, 2);
        x.shelf(1, 1, 1);
        x.shelf(3, 0, 4);
        x.act(0, 3, 5);
    }
}
