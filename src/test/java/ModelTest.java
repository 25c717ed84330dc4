import java.lang.reflect.Method;
import java.util.ArrayList;
import java.util.Arrays;
import java.util.Comparator;
import java.util.List;
import java.util.Random;

/** Long runs of drawn calls (always the same ones) on HeartHours and on the Model: every answer must be alike. */
public final class ModelTest {
    private static final int RUNS = 1500, CALLS = 500;
    private static final String[] WORDS = {
        "guild", "baker", "lawyer", "doctor", "book", "candle", "come", "wait", "leave", "if", "or", "and", "not",
        "hour", "gift", "late", "mood", "number", "<", "=", ">", "(", ")", ";", "0", "3", "0007", "9999", "12345", "hours"
    };
    private final Random random;
    private final HeartHours real = new HeartHours();
    private final Model model = new Model();
    private final List<String> said = new ArrayList<>();

    private ModelTest(long seed) { random = new Random(seed); }

    private static final Method[] FACE = face();

    private static Method[] face() {
        Method[] all = Arrays.stream(HeartHours.class.getDeclaredMethods())
            .filter(m -> java.lang.reflect.Modifier.isPublic(m.getModifiers())).toArray(Method[]::new);
        Arrays.sort(all, Comparator.comparing(Method::getName));
        return all;
    }

    private static Method named(String name) {
        for (Method m : FACE) if (m.getName().equals(name)) return m;
        throw new IllegalStateException(name);
    }

    private boolean same(String name, Object... args) throws Exception {
        Method m = named(name);
        Method of = Model.class.getDeclaredMethod(name, m.getParameterTypes());
        Object got = m.invoke(real, args);
        Object want = of.invoke(model, args);
        said.add(name + Arrays.toString(args) + " -> " + got);
        if (got.equals(want)) return true;
        int from = Math.max(0, said.size() - 40);
        said.subList(from, said.size()).forEach(System.out::println);
        System.out.println("due is " + want);
        return false;
    }

    private int upTo(int most) { return random.nextInt(most + 1); }

    /** Mostly a number as told, at times one just beside it, seldom any int. */
    private int near(int least, int most) {
        int way = upTo(39);
        if (way == 0) return least - 1;
        if (way == 1) return most + 1;
        if (way == 2) return random.nextBoolean() ? Integer.MIN_VALUE : Integer.MAX_VALUE;
        if (way == 3) return random.nextInt();
        if (way == 4) return least;
        if (way == 5) return most;
        return least + upTo(most - least);
    }

    private int guildNumber() { return near(0, Math.max(0, model.t.guilds.size() - 1)); }

    private Object[] argumentsFor(String name) {
        switch (name) {
            case "guild": return new Object[] {near(1, 5), near(0, 60), near(0, 9), near(0, 5)};
            case "guildOf": return new Object[] {guildNumber(), near(0, 9)};
            case "change": {
                int what = near(1, 5);
                int most = what < 1 || what > 5 ? 5 : new int[] {0, 60, 9, 5, 1, 1}[what];
                return new Object[] {guildNumber(), what, near(0, most)};
            }
            case "remake": return new Object[] {guildNumber(), near(1, 5)};
            case "news": return new Object[] {near(0, 15), near(0, 15)};
            case "street": {
                int what = near(0, 1);
                return new Object[] {near(0, 5), what, near(0, what == 0 ? 9 : 14)};
            }
            case "streetOf": return new Object[] {near(0, 5), near(0, 1)};
            case "heart": {
                int what = near(0, 1);
                return new Object[] {what, near(0, what == 0 ? 9 : 99)};
            }
            case "ends": return new Object[] {near(1, 16)};
            case "state": return new Object[] {near(0, 8)};
            case "feed": return new Object[] {random.nextLong(), near(1, 8)};
            case "on": return new Object[] {near(0, 16)};
            case "when": case "giftFor": case "dueFor": return new Object[] {guildNumber()};
            case "shows": return new Object[] {near(0, 99)};
            case "right": return new Object[] {near(0, 1)};
            case "queues": return new Object[] {near(-1, 5)};
            case "errands": return new Object[] {near(0, 99), near(0, 1)};
            case "best": case "ways": case "prove": return new Object[] {near(0, 4)};
            case "ith": return new Object[] {near(0, 4), near(0, 3)};
            case "charter": case "bars": return new Object[] {near(0, 4), near(0, (1 << model.t.guilds.size()) - 1)};
            case "game": case "play": return new Object[] {near(1, 4)};
            case "report": {
                int asked = near(0, 1);
                int top = asked == 0 ? 99 : 9;
                int least = near(0, top);
                return new Object[] {near(0, 15), asked, least, random.nextBoolean() ? near(0, top) : top};
            }
            case "cause": return new Object[] {near(0, 3)};
            case "seed": return new Object[] {random.nextInt()};
            case "times": return new Object[] {near(1, 40), upTo(3) == 0 ? near(0, 999) : near(0, 60)};
            case "row": return new Object[] {near(0, 3), near(0, 2)};
            case "alterRow": return new Object[] {near(0, 3), near(0, 2), near(0, 12)};
            case "sheet": return new Object[] {near(0, 3), near(-1, 4), near(0, 40)};
            case "write": return new Object[] {near(0, 3), near(0, 39), upTo(1) == 0 ? near(0, 7) : random.nextInt()};
            case "item": {
                int sheet = near(0, 3);
                return new Object[] {sheet, upTo(4) == 0 ? near(0, 4) : sortOf(sheet), near(0, Math.max(0, sizeOf(sheet) - 1))};
            }
            case "goAll": case "wouldBe": {
                int sheet = upTo(2) == 0 ? near(0, 3) : 0;
                return new Object[] {sheet, near(0, Math.max(0, sizeOf(sheet) - 1)), upTo(1) == 0 ? near(0, 20) : upTo(3)};
            }
            case "shelf": {
                int what = upTo(1) * near(0, 2);
                return new Object[] {near(0, 3), what, what == 0 ? guildNumber() : near(0, 3)};
            }
            case "taken": return new Object[] {near(0, 3), near(0, 14)};
            case "act": return new Object[] {near(0, 3), near(0, 3), upTo(1) == 0 ? near(0, 20) : random.nextInt()};
            case "trace": return new Object[] {near(0, 11)};
            case "many": return new Object[] {near(0, 6)};
            default: return new Object[0];
        }
    }

    private int sortOf(int sheet) {
        Object row = sheet < 0 || sheet > 3 ? null : model.sheets[sheet];
        return row instanceof byte[] ? 0 : row instanceof short[] ? 1 : row instanceof int[] ? 2 : row instanceof long[] ? 3 : 4;
    }

    private int sizeOf(int sheet) {
        Object row = sheet < 0 || sheet > 3 ? null : model.sheets[sheet];
        return row == null ? 0 : java.lang.reflect.Array.getLength(row);
    }

    /** SHEET 0 becomes a row of bytes that are mostly acts, another one a row of anything. */
    private boolean fillSheets() throws Exception {
        int n = upTo(20);
        if (!same("sheet", 0, 0, n)) return false;
        for (int i = 0; i < n; i++) if (!same("write", 0, i, upTo(9) == 0 ? upTo(255) : upTo(model.t.guilds.size()))) return false;
        int other = 1 + upTo(2);
        if (!same("sheet", other, upTo(4), 6)) return false;
        for (int i = 0; i < 6; i++) if (!same("write", other, i, random.nextInt())) return false;
        return true;
    }

    // ---- texts of rules: mostly good ones, at times with one word changed, left out or put in, or a bad byte

    private String condition(int deep) {
        StringBuilder s = new StringBuilder();
        int parts = 1 + upTo(1) * upTo(2);
        for (int i = 0; i < parts; i++) {
            if (i > 0) s.append(upTo(1) == 0 ? " or " : " and ");
            for (int n = upTo(5) - 3; n > 0; n--) s.append("not ");
            if (deep < 4 && upTo(4) == 0) s.append("(").append(condition(deep + 1)).append(")");
            else s.append(value()).append("<=>".charAt(upTo(2))).append(value());
        }
        return s.toString();
    }

    private String value() {
        return upTo(2) == 0 ? "" + upTo(12) : WORDS[13 + upTo(4)];
    }

    private String ruleText() {
        StringBuilder s = new StringBuilder();
        int many = upTo(9) == 0 ? 9 : upTo(4);
        for (int i = 0; i < many; i++) {
            s.append(WORDS[upTo(5)]);
            if (many < 9 && upTo(3) > 0) s.append(" if ").append(condition(0));
            s.append(" ").append(WORDS[6 + upTo(2)]).append(upTo(3) == 0 ? " ; " : ";");
        }
        if (s.length() > 0 && upTo(2) == 0) {
            int at = upTo(s.length() - 1);
            switch (upTo(3)) {
                case 0: s.deleteCharAt(at); break;
                case 1: s.insert(at, (char) upTo(255)); break;
                case 2: s.insert(at, WORDS[upTo(WORDS.length - 1)]); break;
                default: s.setLength(at); break;
            }
        }
        if (s.length() > 200) s.setLength(200);
        return s.toString();
    }

    private boolean tellRules() throws Exception {
        String text = ruleText();
        for (int i = 0; i < text.length(); i += 8) {
            int n = Math.min(8, text.length() - i);
            long eight = 0;
            for (int j = n - 1; j >= 0; j--) eight = eight << 8 | text.charAt(i + j);
            if (!same("feed", eight, n)) return false;
        }
        said.add(text);
        return same("rules");
    }

    /** The state that calls can see, so that a wrong change shows at once. */
    private boolean seen() throws Exception {
        for (int what = 0; what <= 8; what++) if (!same("state", what)) return false;
        for (int what = 0; what <= 6; what++) if (!same("many", what)) return false;
        for (int k = 0; k < 6; k++) for (int what = 0; what <= 9; what++) if (!same("guildOf", k, what)) return false;
        for (int i = 0; i < 13; i++) if (!same("trace", i)) return false;
        return true;
    }

    private static boolean rarely(String name) {
        return List.of("anew", "again", "keep", "forget", "rules", "feed").contains(name);
    }

    private boolean run() throws Exception {
        for (int g = upTo(6); g > 0; g--) if (!same("guild", 1 + upTo(4), upTo(1) == 0 ? upTo(60) : upTo(20), upTo(9), upTo(5))) return false;
        for (int h = upTo(8); h > 0; h--) if (!same("news", upTo(15), upTo(15))) return false;
        for (int f = upTo(6); f > 0; f--) if (!same("street", upTo(5), 1, upTo(14))) return false;
        for (int call = 0; call < CALLS; call++) {
            Method m = FACE[upTo(FACE.length - 1)];
            String name = m.getName();
            if (rarely(name) && upTo(3) > 0) continue;
            if (name.equals("sheet") && upTo(1) == 0) {
                if (!fillSheets()) return false;
                continue;
            }
            if (name.equals("rules") ? !tellRules() : !same(name, argumentsFor(name))) return false;
            if (upTo(60) == 0 && !seen()) return false;
        }
        return seen();
    }

    public static void main(String[] args) throws Exception {
        int wrong = 0;
        for (int run = 0; run < RUNS && wrong < 3; run++) {
            if (!new ModelTest(run).run()) {
                wrong++;
                System.out.println("^ run " + run + " went apart");
            }
        }
        System.out.println(wrong == 0 ? "the model answers alike" : "the model answers otherwise");
        if (wrong != 0) System.exit(1);
    }
}
