/** One method a promise, its answers worked out by hand from the document: ordinary calls, edges, refusals. */
public final class PromiseTest {
    private static final int BAD = -1, FULL = -2, NONE = -3, STATE = -4;
    private static int checks = 0;
    private static int wrong = 0;
    private static int promise = 0;

    private static void due(String call, int got, int want) {
        checks++;
        if (got != want) {
            wrong++;
            System.out.println("promise " + promise + ": " + call + " answered " + got + ", due is " + want);
        }
    }

    /** Feeds a text, in eights, and answers what rules() answers. */
    private static int tell(HeartHours x, String text) {
        feedText(x, text);
        return x.rules();
    }

    private static void feedText(HeartHours x, String text) {
        for (int i = 0; i < text.length(); i += 8) {
            int n = Math.min(8, text.length() - i);
            long eight = 0;
            for (int j = n - 1; j >= 0; j--) eight = eight << 8 | text.charAt(i + j);
            x.feed(eight, n);
        }
    }

    /** NEWS none (3), so that MOOD stays and HANDS go by 6 less half of it. */
    private static HeartHours quiet(int mood) {
        HeartHours x = new HeartHours();
        for (int h = 0; h < 16; h++) x.news(h, 3);
        x.heart(0, mood);
        return x;
    }

    private static final int[] EDGES = {Integer.MIN_VALUE, -100, Integer.MAX_VALUE, 1000};

    // ---- the town, guilds

    private static void p1() {
        HeartHours x = new HeartHours();
        for (int what = 0; what <= 6; what++) due("many(" + what + ")", x.many(what), 0);
        int[] first = {0, 12, 0, 0, 0, 0, 4, 5, 0};
        for (int what = 0; what <= 8; what++) due("state(" + what + ")", x.state(what), first[what]);
        for (int f = 0; f < 6; f++) {
            due("streetOf", x.streetOf(f, 0), 0);
            due("streetOf", x.streetOf(f, 1), 3);
        }
        for (int h = 0; h < 16; h++) due("news", x.news(h, 0), 4);
        due("again()", x.again(), NONE);
        due("seed", x.seed(0), 1);
        due("cause(0)", x.cause(0), 500);
        for (int s = 0; s < 4; s++) {
            due("taken", x.taken(s, 0), -11);
            due("item", x.item(s, 0, 0), -11);
        }
    }

    private static void p2() {
        HeartHours x = new HeartHours();
        int[][] bad = {{0, 0, 0, 0}, {6, 0, 0, 0}, {1, -1, 0, 0}, {1, 61, 0, 0}, {1, 0, -1, 0}, {1, 0, 10, 0},
            {1, 0, 0, -1}, {1, 0, 0, 6}, {-1, 0, 0, 0}};
        for (int[] b : bad) due("guild", x.guild(b[0], b[1], b[2], b[3]), BAD);
        due("many", x.many(0), 0);
        due("guild", x.guild(1, 0, 0, 0), 0);
        due("guild", x.guild(5, 60, 9, 5), 1);
        due("guildOf", x.guildOf(1, 0), 5);
        due("guildOf", x.guildOf(1, 1), 60);
        due("guildOf", x.guildOf(1, 2), 9);
        due("guildOf", x.guildOf(1, 3), 5);
        due("guildOf", x.guildOf(1, 4), 1);
        due("guildOf", x.guildOf(1, 5), 0);
        for (int k = 2; k < 6; k++) due("guild", x.guild(k - 1, 1, 1, 1), k);
        due("guild, seventh", x.guild(1, 0, 0, 0), FULL);
        due("guild, bad and seventh", x.guild(1, 0, 0, 6), BAD);
        due("many", x.many(0), 6);
        due("state(4)", x.state(4), 63);
    }

    private static void p3() {
        HeartHours x = quiet(0);
        for (int kind = 1; kind <= 5; kind++) x.guild(kind, 60, 9, 0);
        int[][] cheers = {
            // hour, then baker, lawyer, doctor, book, candle with gift 9, then with gift 0, then with gift 5
            {0, 16, 10, 14, 12, 12, 10, 7, 11, 11, 11, 12, 8, 12, 12, 12},
            {1, 16, 10, 10, 12, 10, 10, 7, 7, 11, 10, 12, 8, 8, 12, 10},
            {2, 16, 10, 14, 12, 12, 10, 7, 11, 11, 11, 12, 8, 12, 12, 12},
            {3, 16, 10, 10, 12, 12, 10, 7, 7, 11, 11, 12, 8, 8, 12, 12},
            {4, 16, 10, 14, 12, 10, 10, 7, 11, 11, 10, 12, 8, 12, 12, 10},
        };
        int[] gifts = {9, 0, 5};
        for (int[] row : cheers) {
            due("state(0)", x.state(0), row[0]);
            for (int g = 0; g < 3; g++) {
                for (int k = 0; k < 5; k++) {
                    x.change(k, 2, gifts[g]);
                    due("cheers of kind " + (k + 1) + " in " + row[0], x.guildOf(k, 6), row[1 + 5 * g + k]);
                }
            }
            x.hour();
        }
        int[] pays = {6, 5, 12, 3, 1};
        for (int k = 0; k < 5; k++) due("pays", x.guildOf(k, 7), pays[k]);
        due("guild", x.guild(3, 3, 0, 2), 5);
        due("pays of doctor 5", x.guildOf(5, 7), 18);
        x.remake(5, 2);
        due("pays of lawyer 5", x.guildOf(5, 7), 9);
        x.street(2, 0, 4);
        x.heart(1, 10);
        due("late: 10 from 3 and 4", x.guildOf(5, 9), 3);
        x.heart(1, 7);
        due("late", x.guildOf(5, 9), 0);
        x.heart(1, 2);
        due("late", x.guildOf(5, 9), 5);
        due("will, no rules", x.guildOf(5, 8), 0);
        tell(x, "lawyer if late > 4 wait; lawyer leave;");
        due("will", x.guildOf(5, 8), 1);
        x.heart(1, 3);
        due("will", x.guildOf(5, 8), 2);
        for (int what = 0; what <= 9; what++) {
            due("no such guild", x.guildOf(6, what), BAD);
            due("no such guild", x.guildOf(-1, what), BAD);
        }
        due("guildOf", x.guildOf(0, -1), BAD);
        due("guildOf", x.guildOf(0, 10), BAD);
        for (int e : EDGES) due("guildOf", x.guildOf(e, e), BAD);
    }

    private static void p4() {
        HeartHours x = new HeartHours();
        x.guild(1, 6, 8, 2);
        due("change", x.change(0, 1, 60), 6);
        due("change", x.change(0, 1, 0), 60);
        due("change", x.change(0, 2, 9), 8);
        due("change", x.change(0, 3, 5), 2);
        due("change", x.change(0, 4, 0), 1);
        due("change", x.change(0, 4, 1), 0);
        due("change", x.change(0, 5, 1), 0);
        due("change", x.change(0, 5, 0), 1);
        int[][] bad = {{0, 0, 1}, {0, 6, 1}, {0, 1, 61}, {0, 1, -1}, {0, 2, 10}, {0, 2, -1}, {0, 3, 6}, {0, 3, -1},
            {0, 4, 2}, {0, 4, -1}, {0, 5, 2}, {0, 5, -1}, {1, 1, 1}, {-1, 1, 1}};
        for (int[] b : bad) due("change", x.change(b[0], b[1], b[2]), BAD);
        int[] now = {1, 0, 9, 5, 1, 0};
        for (int what = 0; what <= 5; what++) due("guildOf", x.guildOf(0, what), now[what]);
    }

    private static void p5() {
        HeartHours x = new HeartHours();
        x.guild(1, 6, 8, 2);
        x.change(0, 4, 0);
        x.change(0, 5, 1);
        due("remake", x.remake(0, 5), 1);
        due("remake", x.remake(0, 3), 5);
        int[] now = {3, 6, 8, 2, 0, 1};
        for (int what = 0; what <= 5; what++) due("all else stays", x.guildOf(0, what), now[what]);
        due("remake", x.remake(0, 0), BAD);
        due("remake", x.remake(0, 6), BAD);
        due("remake", x.remake(1, 1), BAD);
        due("remake", x.remake(-1, 1), BAD);
        due("guildOf", x.guildOf(0, 0), 3);
    }

    private static void p6() {
        HeartHours x = new HeartHours();
        due("news", x.news(0, 15), 4);
        due("news", x.news(0, 0), 15);
        due("news", x.news(15, 7), 4);
        due("news", x.news(16, 0), BAD);
        due("news", x.news(-1, 0), BAD);
        due("news", x.news(0, 16), BAD);
        due("news", x.news(0, -1), BAD);
        due("news", x.news(0, 9), 0);
        due("state(6)", x.state(6), 9);
        int[][] moods = {
            // news, mood before, mood behind
            {8, 5, 7}, {12, 8, 9}, {0, 5, 5}, {9, 5, 3}, {13, 2, 0}, {6, 7, 6}, {14, 7, 5}, {14, 3, 5}, {10, 2, 4},
            {10, 8, 6}, {6, 5, 5}, {14, 9, 6}, {15, 1, 1}, {3, 9, 9}, {2, 8, 8}, {1, 3, 3}
        };
        for (int[] m : moods) {
            HeartHours y = new HeartHours();
            y.news(0, m[0]);
            y.heart(0, m[1]);
            y.hour();
            due("mood by news " + m[0] + " from " + m[1], y.state(7), m[2]);
        }
    }

    private static void p7() {
        HeartHours x = new HeartHours();
        due("street", x.street(0, 0, 9), 0);
        due("street", x.street(0, 0, 0), 9);
        due("street", x.street(5, 1, 14), 3);
        due("street", x.street(5, 1, 0), 14);
        int[][] bad = {{6, 0, 0}, {-1, 0, 0}, {0, 2, 0}, {0, -1, 0}, {0, 0, 10}, {0, 0, -1}, {0, 1, 15}, {0, 1, -1}};
        for (int[] b : bad) due("street", x.street(b[0], b[1], b[2]), BAD);
        due("street", x.street(0, 1, 3), 3);
    }

    private static void p8() {
        HeartHours x = new HeartHours();
        x.street(3, 0, 7);
        x.street(3, 1, 11);
        due("streetOf", x.streetOf(3, 0), 7);
        due("streetOf", x.streetOf(3, 1), 11);
        due("streetOf", x.streetOf(2, 0), 0);
        due("streetOf", x.streetOf(4, 1), 3);
        due("streetOf", x.streetOf(6, 0), BAD);
        due("streetOf", x.streetOf(-1, 0), BAD);
        due("streetOf", x.streetOf(0, 2), BAD);
        due("streetOf", x.streetOf(0, -1), BAD);
    }

    private static void p9() {
        HeartHours x = new HeartHours();
        due("heart", x.heart(0, 9), 5);
        due("heart", x.heart(0, 0), 9);
        due("heart", x.heart(1, 99), 0);
        due("heart", x.heart(1, 0), 99);
        int[][] bad = {{2, 0}, {-1, 0}, {0, 10}, {0, -1}, {1, 100}, {1, -1}};
        for (int[] b : bad) due("heart", x.heart(b[0], b[1]), BAD);
        due("state", x.state(7), 0);
        due("state", x.state(8), 0);
    }

    private static void p10() {
        HeartHours x = new HeartHours();
        due("ends", x.ends(16), 12);
        due("ends", x.ends(1), 16);
        due("ends", x.ends(0), BAD);
        due("ends", x.ends(17), BAD);
        due("ends", x.ends(4), 1);
        x.hour();
        x.hour();
        due("ends below hour", x.ends(1), STATE);
        due("ends below all", x.ends(0), BAD);
        due("ends at hour", x.ends(2), 4);
        due("over", x.state(3), 1);
        due("ends", x.ends(3), 2);
        due("over", x.state(3), 0);
    }

    private static void p11() {
        HeartHours x = new HeartHours();
        x.street(0, 1, 14);
        x.guild(1, 3, 9, 0);
        x.guild(2, 3, 9, 1);
        x.ends(7);
        x.seed(44);
        x.hour();
        x.hour();
        due("score: 6 and 6, 5 and 8", x.state(2), 25);
        due("waits", x.state(4), 0);
        x.change(1, 5, 1);
        due("anew", x.anew(), 2);
        int[] now = {0, 7, 0, 0, 3, 0, 4, 5, 0};
        for (int what = 0; what <= 8; what++) due("state(" + what + ")", x.state(what), now[what]);
        due("streets stay", x.streetOf(0, 1), 14);
        due("z stays", x.seed(1), 44);
        due("anew", x.anew(), 0);
    }

    private static void p12() {
        HeartHours x = quiet(4);
        x.guild(1, 0, 0, 0);
        x.guild(4, 60, 0, 0);
        x.ends(16);
        x.news(1, 8);
        due("hour: 6 and 9 more", x.hour(), 15);
        int[] now = {1, 16, 15, 0, 2, 1, 8, 4, 4};
        for (int what = 0; what <= 8; what++) due("state(" + what + ")", x.state(what), now[what]);
        for (int h = 1; h < 16; h++) x.hour();
        due("hour", x.state(0), 16);
        due("over", x.state(3), 1);
        due("news behind hour 15", x.state(6), 0);
        due("state", x.state(9), BAD);
        due("state", x.state(-1), BAD);
        for (int e : EDGES) due("state", x.state(e), BAD);
    }

    // ---- the rules

    private static void p13() {
        HeartHours x = new HeartHours();
        due("feed", x.feed(0L, 0), BAD);
        due("feed", x.feed(0L, 9), BAD);
        due("feed", x.feed(0L, -1), BAD);
        due("feed", x.feed(0x6562L, 2), 2);
        // the lowest byte comes first; the higher ones are left out
        HeartHours y = new HeartHours();
        due("feed", y.feed(0xffffff2020L, 2), 2);
        due("feed", y.feed(0x20_65_6b_61_74_20_20_20L, 3), 5);
        due("blanks alone are a text", y.rules(), 0);
        HeartHours z = new HeartHours();
        due("book wai", z.feed(0x696177206b6f6f62L, 8), 8);
        due("t;", z.feed(0x3b74L, 2), 10);
        due("rules", z.rules(), 1);
        HeartHours w = new HeartHours();
        for (int i = 1; i <= 24; i++) due("feed", w.feed(0L, 8), 8 * i);
        due("feed, 199", w.feed(0L, 7), 199);
        due("feed, 201", w.feed(0L, 2), FULL);
        due("feed, bad and full", w.feed(0L, 9), BAD);
        due("many", w.many(5), 199);
        due("feed, 200", w.feed(0L, 1), 200);
        due("feed, 201", w.feed(0L, 1), FULL);
        due("rules", w.rules(), -100);
        due("used up", w.many(5), 0);
        due("feed", w.feed(-1L, 8), 8);
    }

    private static void p14() {
        HeartHours x = new HeartHours();
        x.guild(3, 10, 5, 0);
        due("rules", tell(x, "guild wait;"), 1);
        due("will", x.guildOf(0, 8), 1);
        // the fault, and what it leaves as it was
        String[] texts = {
            "c", "guild", "guild ", "guild wait", "guild wait; ", "guild wait;;", "guild come wait;", "guild if", "guild if hour",
            "guild if hour <", "guild if hour < 3", "guild if hour < 12345 come;", "guild if hour < 1234 come;",
            "guild if hour <= 3 come;", "guild if (hour < 3 come;", "guild if hour < 3) come;", "guild if ((((1=1)))) come;",
            "guild if (((1=1))) come;", "guild if not come;", "guild if not not not 1=2 leave;", "Guild come;", "guildcome;",
            "guild if hour<3come;", "guild\tcome;", "12345", "guild if 1=1 and or 2=2 come;", "guild if 1=1 or come;",
            "if", "guild if guild = 1 come;", "guild if (1=1)(2=2) come;", "guild if 1=1 hour come;", "guild leave; doctor if",
            "guild if () come;", "guild if number=00005 come;", "guild if number=0005 come;", ";",
            "come come;", "guild if 1=1 if;", "guild hour;", "guild if come=1 come;", "guild if 1=1 come", "guild if 1 1 come;"
        };
        int[] answers = {
            -100, -105, -106, -110, 1, -111, -111, -108, -113, -115, -117, -116, 1,
            -115, -119, -117, -112, 1, -113, 1, -100, -100, 1, -105, -100, -117, -116,
            -100, -109, -114, -113, -122, -110, -116, 1, -100,
            -100, -113, -106, -109, -117, -111
        };
        for (int i = 0; i < texts.length; i++) {
            HeartHours y = new HeartHours();
            y.guild(3, 10, 5, 0);
            tell(y, "guild wait;doctor come;");
            due("rules of " + texts[i], tell(y, texts[i]), answers[i]);
            due("tape of " + texts[i], y.many(5), 0);
            due("count of " + texts[i], y.many(1), answers[i] < 0 ? 2 : 1);
            if (answers[i] < 0) due("will of " + texts[i], y.guildOf(0, 8), 1);
        }
        String eight = "book come;book come;book come;book come;book come;book come;book come;book come;";
        due("eight rules", tell(x, eight), 8);
        due("nine rules", tell(x, eight + " guild"), -100 - 81);
        due("nine rules", tell(x, eight + "; "), -100 - 80);
        for (int i = 0; i < 30; i++) due("one text behind the other", tell(x, "guild if 1=1 and 2=2 and 3=3 wait;"), 1);
        due("will", x.guildOf(0, 8), 1);
        due("rules", tell(x, "guild if 1=2 wait; guild leave;"), 2);
        due("will", x.guildOf(0, 8), 2);
        tell(x, "guild if 1=12345");
        due("no byte of the text before counts", tell(x, "guild if 1=1234"), -115);
        due("z is a letter", tell(x, "guildz come;"), -100);
        due("a is a letter", tell(x, "guilda come;"), -100);
        due("bytes beside the letters", tell(x, "guild`come;"), -105);
        due("bytes beside the letters", tell(x, "guild{come;"), -105);
        due("bytes above 127", tell(x, "guild " + (char) 225 + "come;"), -106);
        due("an empty text", x.rules(), 0);
        due("no rules", x.many(1), 0);
        due("will", x.guildOf(0, 8), 0);
        meanings();
    }

    private static void meanings() {
        // a doctor (under lawyer, guild), number 0, gift 5, late 7, mood 5, hour 0
        String[] conds = {
            "hour=0", "gift=5", "late=7", "mood=5", "number=0", "hour>0", "gift<5", "late>6", "5<mood", "9999>number",
            "1=1 or 1=1 and 1=2", "(1=1 or 1=1) and 1=2", "not 1=2 and 1=1", "not (1=2 or 1=1)", "not not 1=1",
            "1=2 and 1=1 or 1=1", "not 1=1 or 1=1", "1=2 or 1=2 or 1=1", "1=1 and 1=1 and 1=2", "((1=2) or (not (2=1)))",
            "1=2 and 1=1", "1=1 or 1=2", "1=2 or 1=1 and (1=2 or 1=1)", "1=1 and (1=2 or 1=1 and 1=2)", "1=2 or (1=1 and (1=1 or 1=2))",
            "1=2 and (1=1 or 1=1)", "1=1 or (1=2 and 1=2)", "late<10", "10=11", "late=17", "1234>1233", "0009=9"
        };
        boolean[] holds = {
            true, true, true, true, true, false, false, true, false, true,
            true, false, true, false, true, true, true, true, false, true,
            false, true, true, false, true,
            false, true, true, false, false, true, true
        };
        HeartHours x = new HeartHours();
        x.guild(3, 7, 5, 0);
        for (int i = 0; i < conds.length; i++) {
            due("rules", tell(x, "guild if " + conds[i] + " leave; guild wait;"), 2);
            due("whether " + conds[i], x.guildOf(0, 8), holds[i] ? 2 : 1);
        }
        HeartHours y = quiet(4);
        for (int k = 0; k < 3; k++) y.guild(1, 60, 7, 0);
        y.hour();
        y.hour();
        y.heart(1, 48);
        String[] facts = {"hour=2", "gift=7", "late=12", "mood=4", "number=1"};
        for (String fact : facts) {
            tell(y, "guild if " + fact + " leave; guild wait;");
            due("whether " + fact, y.guildOf(1, 8), 2);
            due("whether " + fact, y.guildOf(2, 8), fact.startsWith("number") ? 1 : 2);
        }
        String[] kinds = {"guild", "baker", "lawyer", "doctor", "book", "candle"};
        int[] above = {0, 1, 1, 1 | 4, 1, 1 | 16};
        for (int kind = 1; kind <= 5; kind++) {
            x.remake(0, kind);
            for (int rule = 0; rule <= 5; rule++) {
                tell(x, kinds[rule] + " leave;");
                boolean its = rule == kind || (above[kind] >> rule & 1) == 1;
                due(kinds[rule] + " tells " + kinds[kind], x.guildOf(0, 8), its ? 2 : 0);
            }
        }
    }

    // ---- hours

    private static void p15() {
        HeartHours x = quiet(4);
        x.street(1, 1, 14);
        x.street(2, 1, 0);
        x.guild(1, 4, 9, 2);
        x.guild(4, 13, 0, 1);
        due("book, 13 late: no more than it pays", x.hour(), 3);
        due("mood is 1 more", x.state(7), 5);
        due("hands: 6 less 2", x.state(8), 4);
        due("baker, in time", x.hour(), 15);
        due("mood held", x.state(7), 9);
        due("hands: 6 less 4", x.state(8), 6);
        due("score", x.state(2), 18);
        due("done", x.state(5), 3);
        due("none is told", x.hour(), 0);
        x.anew();
        x.heart(0, 4);
        tell(x, "book wait;");
        due("it waits, though told; no other is", x.hour(), 0);
        due("waits", x.state(4), 3);
        x.anew();
        x.heart(0, 4);
        tell(x, "book leave;");
        due("it leaves", x.hour(), 1);
        due("waits", x.state(4), 1);
        due("done", x.state(5), 0);
        due("its gift was not taken", x.state(7), 4);
        x.ends(1);
        due("over", x.hour(), STATE);
        due("hour", x.state(0), 1);
        HeartHours y = quiet(0);
        y.ends(16);
        y.heart(1, 95);
        y.hour();
        due("hands at most 99", y.state(8), 99);
        HeartHours z = quiet(1);
        z.guild(2, 0, 0, 0);
        due("lawyer 0", z.hour(), 13);
        due("mood held at 0", z.state(7), 0);
        HeartHours w = quiet(5);
        w.news(0, 5);
        w.guild(1, 0, 0, 0);
        tell(w, "guild if mood=4 leave; guild wait;");
        due("mood behind the news is the one that rules see", w.hour(), 1);
    }

    private static void p16() {
        HeartHours x = quiet(4);
        x.guild(1, 0, 0, 0);
        x.guild(4, 4, 0, 0);
        due("on", x.on(0), 0);
        due("on", x.on(1), 15);
        due("on", x.on(2), 27);
        due("on", x.on(16), 27);
        due("on", x.on(17), BAD);
        due("on", x.on(-1), BAD);
        x.ends(1);
        due("fewer, if it is over", x.on(2), 15);
        due("nothing changed", x.state(0), 0);
        due("nothing changed", x.state(2), 0);
        due("nothing changed", x.state(4), 3);
        due("nothing changed", x.state(8), 0);
        x.hour();
        due("over", x.on(16), 0);
    }

    private static void p17() {
        HeartHours x = quiet(4);
        x.guild(1, 9, 0, 0);
        x.guild(4, 0, 0, 0);
        x.guild(4, 60, 0, 0);
        x.guild(5, 1, 0, 0);
        x.change(3, 4, 0);
        // book 1 comes in hour 0 and cheers to 5; hands 4, 8; baker at 9, 3 early at most: in hour 2 (hands 8)
        due("when", x.when(0), 2);
        due("when", x.when(1), 0);
        due("when, too far", x.when(2), NONE);
        due("when, waits no more", x.when(3), NONE);
        due("when", x.when(4), BAD);
        due("when", x.when(-1), BAD);
        x.ends(3);
        due("when, the last hour", x.when(0), 2);
        x.ends(2);
        due("when, it is over", x.when(0), NONE);
        due("nothing changed", x.state(4), 7);
    }

    private static void p18() {
        // A baker comes in hour 0; a candle due at 2 bears nothing: HANDS must be just 2 behind it, so MOOD 8 or 9.
        HeartHours x = quiet(4);
        x.street(1, 1, 0);
        x.guild(1, 0, 9, 0);
        x.guild(5, 2, 0, 1);
        due("giftFor", x.giftFor(0), 6);
        due("gift stays", x.guildOf(0, 2), 9);
        due("giftFor, all the same", x.giftFor(1), 0);
        due("giftFor", x.giftFor(2), BAD);
        due("giftFor", x.giftFor(-1), BAD);
        due("nothing changed", x.state(0), 0);
        tell(x, "baker if gift > 8 come; baker wait;");
        due("giftFor, the most", x.giftFor(0), 9);
        x.ends(1);
        due("giftFor, in the last hour", x.giftFor(0), 9);
        tell(x, "baker if gift > 9 come; baker wait;");
        due("giftFor, no more than the most", x.giftFor(0), 0);
        x.street(0, 1, 14);
        tell(x, "baker if hour=1 and gift=5 leave; baker wait;");
        due("giftFor, no hour beyond the end", x.giftFor(0), 0);
        x.ends(2);
        due("giftFor, the last hour", x.giftFor(0), 5);
        x.change(0, 2, 4);
        x.giftFor(0);
        due("gift stays", x.guildOf(0, 2), 4);
        tell(x, "");
        x.change(0, 4, 0);
        due("waits no more", x.giftFor(0), 0);
    }

    private static void p19() {
        HeartHours x = quiet(4);
        x.street(0, 0, 2);
        x.street(0, 1, 1);
        x.guild(1, 60, 0, 0);
        // HANDS go 0, 4, 8, ..: just in time (15) first where DUE and 2 are 4
        due("dueFor", x.dueFor(0), 2);
        due("due stays", x.guildOf(0, 1), 60);
        x.heart(1, 1);
        due("dueFor, hands 1, 5", x.dueFor(0), 3);
        x.heart(1, 2);
        due("dueFor, hands 2", x.dueFor(0), 0);
        x.street(0, 0, 0);
        x.street(0, 1, 0);
        x.ends(1);
        x.change(0, 1, 30);
        x.heart(1, 60);
        due("dueFor, the most", x.dueFor(0), 60);
        x.heart(1, 61);
        due("dueFor, no more than the most", x.dueFor(0), 0);
        due("due stays", x.guildOf(0, 1), 30);
        due("dueFor", x.dueFor(1), BAD);
        due("dueFor", x.dueFor(-1), BAD);
        due("hour", x.state(0), 0);
    }

    // ---- the sun and the clock, queues, errands

    private static void p20() {
        HeartHours x = quiet(4);
        x.guild(1, 0, 9, 0);
        due("shows", x.shows(0), 0);
        due("shows", x.shows(4), 0);
        due("shows: none is told, mood stays 4", x.shows(5), 1);
        due("shows", x.shows(48), 11);
        due("shows", x.shows(49), NONE);
        due("shows", x.shows(100), BAD);
        due("shows", x.shows(-1), BAD);
        x.heart(1, 50);
        due("they show so much now", x.shows(20), 0);
        x.hour();
        due("shows", x.shows(20), 1);
        x.ends(1);
        due("over", x.shows(0), NONE);
    }

    private static void p21() {
        HeartHours x = quiet(4);
        due("4 an hour is right", x.right(0), 12);
        due("off", x.right(1), 0);
        x.heart(1, 3);
        due("3 off in all", x.right(0), 0);
        due("3 off in all", x.right(1), 36);
        x.heart(1, 0);
        x.guild(1, 0, 9, 0);
        // the baker comes in hour 0: mood 9, hands 2, 4, 6 ..; off 2, 4, .. 24
        due("right", x.right(0), 0);
        due("right", x.right(1), 156);
        due("right", x.right(2), BAD);
        due("right", x.right(-1), BAD);
        due("hour", x.state(0), 0);
        x.ends(1);
        x.hour();
        due("over", x.right(1), 0);
    }

    private static void p22() {
        HeartHours x = new HeartHours();
        due("queues", x.queues(-1), 0);
        x.street(1, 0, 4);
        x.guild(1, 10, 0, 0);
        x.guild(1, 14, 0, 0);
        x.guild(1, 8, 0, 1);
        x.guild(1, 20, 0, 0);
        x.guild(1, 23, 0, 0);
        // 10, 14, 12, 20, 23
        due("queues", x.queues(-1), 3);
        due("queues", x.queues(0), 7);
        due("queues", x.queues(1), 7);
        due("queues", x.queues(2), 7);
        due("queues", x.queues(3), 8);
        due("queues", x.queues(5), BAD);
        due("queues", x.queues(6), BAD);
        due("queues", x.queues(-2), BAD);
        x.change(2, 4, 0);
        due("queues", x.queues(2), 0);
        due("queues", x.queues(0), 1);
        due("queues", x.queues(-1), 4);
        x.change(4, 1, 22);
        due("queues", x.queues(4), 24);
        due("queues", x.queues(-1), 3);
        // 10, 40, 12, 20, 11: 0, 2, 4 hang together, with others between them
        x.change(2, 4, 1);
        x.change(1, 1, 40);
        x.change(4, 1, 11);
        due("queues", x.queues(-1), 3);
        due("queues", x.queues(4), 21);
        // a chain against the numbers: 10, 40, 14, 12, 16
        x.change(3, 1, 12);
        x.change(2, 1, 10);
        x.change(4, 1, 16);
        due("queues", x.queues(0), 29);
        due("queues", x.queues(4), 29);
        due("queues", x.queues(-1), 2);
    }

    private static void p23() {
        HeartHours x = new HeartHours();
        x.street(1, 0, 9);
        x.guild(1, 20, 0, 0);
        x.guild(1, 10, 0, 0);
        x.guild(1, 31, 0, 1);
        x.guild(1, 20, 0, 0);
        due("errands", x.errands(5, 0), 0);
        due("errands", x.errands(5, 1), NONE);
        for (int k = 0; k < 4; k++) x.change(k, 4, 0);
        // places 20, 10, 40, 20
        due("from below", x.errands(5, 0), 35);
        due("from below", x.errands(5, 1), 1);
        due("from above", x.errands(50, 0), 40);
        due("from above", x.errands(50, 1), 2);
        due("nearer to the low end", x.errands(22, 0), 42);
        due("20 is on the way down", x.errands(22, 1), 0);
        due("nearer to the high end", x.errands(30, 0), 40);
        due("from the middle up first", x.errands(30, 1), 2);
        due("from the middle down first", x.errands(25, 0), 45);
        due("either: the least guild", x.errands(25, 1), 0);
        x.change(2, 4, 1);
        due("one less", x.errands(99, 0), 89);
        due("one less", x.errands(99, 1), 0);
        due("errands", x.errands(0, 0), 20);
        due("errands", x.errands(100, 0), BAD);
        due("errands", x.errands(-1, 0), BAD);
        due("errands", x.errands(0, 2), BAD);
        due("errands", x.errands(0, -1), BAD);
    }

    // ---- plans

    /** Mood 4 and quiet, so HANDS go by 4 but for CHEERS; gifts 0; baker at 0, book at 4, both bear 3. */
    private static HeartHours two() {
        HeartHours x = quiet(4);
        x.guild(1, 0, 0, 0);
        x.guild(4, 4, 0, 0);
        return x;
    }

    private static void p24() {
        HeartHours x = two();
        due("best", x.best(0), 0);
        due("best: the baker at once", x.best(1), 15);
        due("best: then the book", x.best(2), 27);
        due("best", x.best(4), 27);
        due("best", x.best(5), BAD);
        due("best", x.best(-1), BAD);
        due("nothing changed", x.state(4), 3);
        due("nothing changed", x.state(2), 0);
        x.ends(1);
        due("fewer", x.best(4), 15);
        x.news(0, 9);
        tell(x, "baker if mood=2 come; guild wait;");
        due("the news come first", x.best(1), 15);
        x.news(0, 3);
        tell(x, "baker leave;");
        due("one that leaves is worth 1", x.best(1), 1);
        tell(x, "baker wait;");
        due("best", x.best(1), 0);
        x.hour();
        due("over", x.best(4), 0);
    }

    private static void p25() {
        HeartHours x = two();
        due("ith", x.ith(2, 0), 1);
        due("ith", x.ith(2, 1), 2);
        due("ith", x.ith(2, 2), NONE);
        due("ith", x.ith(4, 2), 0);
        due("ith", x.ith(4, 3), 0);
        due("ith", x.ith(0, 0), NONE);
        due("ith", x.ith(4, 4), BAD);
        due("ith", x.ith(4, -1), BAD);
        due("ith", x.ith(5, 0), BAD);
        due("ith", x.ith(-1, 0), BAD);
        x.ends(1);
        due("it has one act", x.ith(4, 0), 1);
        due("not so many", x.ith(4, 1), NONE);
        HeartHours y = quiet(4);
        y.guild(4, 0, 0, 0);
        y.guild(4, 0, 0, 0);
        due("of several the lesser act first", y.ith(1, 0), 1);
        due("ways", y.ways(1), 2);
    }

    private static void p26() {
        HeartHours x = two();
        due("ways", x.ways(0), 1);
        due("ways", x.ways(1), 1);
        due("ways", x.ways(2), 1);
        due("any acts behind it", x.ways(4), 9);
        due("ways", x.ways(5), BAD);
        due("ways", x.ways(-1), BAD);
        x.change(0, 4, 0);
        x.change(1, 4, 0);
        due("none is worth anything", x.ways(4), 81);
        x.ends(1);
        due("fewer", x.ways(4), 3);
        x.hour();
        due("over: the empty plan", x.ways(4), 1);
    }

    private static void p27() {
        HeartHours x = two();
        due("charter", x.charter(4, 0), 0);
        due("charter", x.charter(1, 1), 1);
        due("charter: late 4", x.charter(1, 2), NONE);
        due("charter", x.charter(2, 2), 1);
        due("charter", x.charter(2, 3), 2);
        due("charter", x.charter(4, 3), 2);
        due("charter", x.charter(0, 1), NONE);
        due("no such guild", x.charter(1, 4), BAD);
        due("charter", x.charter(1, -1), BAD);
        due("charter", x.charter(5, 0), BAD);
        due("charter", x.charter(-1, 0), BAD);
        HeartHours y = quiet(4);
        for (int k = 0; k < 4; k++) {
            y.street(k, 1, 14);
            y.guild(4, 5, 0, k);
        }
        due("four acts", y.charter(4, 15), 4);
        due("four acts", y.charter(3, 15), NONE);
        x.change(0, 5, 1);
        due("done already", x.charter(0, 1), 0);
        due("done already", x.charter(4, 3), 1);
        tell(x, "book wait;");
        due("it waits", x.charter(4, 2), NONE);
        due("nothing changed", x.state(5), 1);
    }

    private static void p28() {
        HeartHours x = two();
        due("bars", x.bars(4, 0), NONE);
        due("bars", x.bars(1, 3), 1);
        due("bars", x.bars(2, 3), NONE);
        due("bars", x.bars(0, 3), 0);
        due("bars", x.bars(0, 2), 1);
        due("bars", x.bars(0, 4), BAD);
        due("bars", x.bars(0, -1), BAD);
        due("bars", x.bars(5, 0), BAD);
        due("bars", x.bars(-1, 0), BAD);
        HeartHours z = quiet(4);
        z.guild(4, 12, 0, 0);
        due("late 12, 8, 4, 0", z.bars(3, 1), 0);
        due("behind three times none", z.bars(4, 1), NONE);
        // each by a plan of its own, though not both by one
        HeartHours y = quiet(4);
        y.guild(1, 0, 0, 0);
        y.guild(1, 0, 0, 0);
        due("each", y.bars(1, 3), NONE);
        due("not both", y.charter(1, 3), NONE);
        y.change(1, 5, 1);
        due("done already", y.bars(0, 3), 0);
        y.change(0, 5, 1);
        due("done already", y.bars(0, 3), NONE);
    }

    // ---- a game, strangers, lots

    private static void p29() {
        HeartHours x = two();
        due("game: the first takes the baker", x.game(1), 15);
        due("game: the other tells none", x.game(2), 15);
        // the book: hands 4 in hour 1, 8 in hour 2 (late 4): lost to the first
        due("game", x.game(3), 15);
        x.street(0, 1, 4);
        due("game: book 4 late is 3 and 5", x.game(3), 23);
        due("game", x.game(0), BAD);
        due("game", x.game(5), BAD);
        due("nothing changed", x.state(4), 3);
        x.ends(2);
        due("till it is over", x.game(4), 15);
        x.hour();
        x.hour();
        due("over", x.game(4), 0);
        // the other one can spoil: a lawyer told too early doesn't wait any more
        HeartHours y = quiet(4);
        y.guild(2, 8, 9, 0);
        due("best", y.best(3), 13);
        due("spoilt in hour 1", y.game(3), 0);
        // three books that are in time whenever they come
        HeartHours z = quiet(4);
        for (int k = 0; k < 3; k++) {
            z.street(k, 1, 14);
            z.guild(4, 0, 0, k);
        }
        // the first one tells two, 0 late and 8 late: 3 and 9, 3 and 1; the other one tells none
        due("game of 4", z.game(4), 12 + 4);
        due("game of 1", z.game(1), 12);
    }

    private static void p30() {
        HeartHours x = two();
        due("play", x.play(1), 1);
        due("play", x.play(2), 1);
        due("play", x.play(4), 1);
        due("play", x.play(0), BAD);
        due("play", x.play(5), BAD);
        HeartHours y = quiet(4);
        y.guild(2, 8, 9, 0);
        due("all are the same: the least", y.play(3), 0);
        y.ends(1);
        y.hour();
        due("over", y.play(1), NONE);
        due("over, bad", y.play(0), BAD);
    }

    private static void p31() {
        HeartHours x = new HeartHours();
        int[][] bad = {{-1, 0, 0, 0}, {16, 0, 0, 0}, {0, -1, 0, 0}, {0, 2, 0, 0}, {0, 0, -1, 0}, {0, 0, 0, 100},
            {0, 0, 5, 4}, {0, 1, 0, 10}, {0, 1, -1, 0}, {0, 1, 9, 8}, {0, 0, 100, 100}};
        for (int[] b : bad) due("report", x.report(b[0], b[1], b[2], b[3]), BAD);
        due("report", x.report(15, 0, 0, 99), 0);
        due("report", x.report(0, 1, 9, 9), 1);
        for (int r = 2; r < 6; r++) due("report", x.report(0, 0, 0, 0), r);
        due("report", x.report(0, 0, 0, 0), FULL);
        due("bad and full", x.report(0, 0, 1, 0), BAD);
        due("many", x.many(3), 6);
    }

    private static void p32() {
        HeartHours x = new HeartHours();
        due("forget", x.forget(), 0);
        x.report(0, 1, 3, 3);
        x.report(0, 1, 3, 3);
        due("forget", x.forget(), 2);
        due("many", x.many(3), 0);
        due("cause", x.cause(0), 500);
        due("report", x.report(0, 1, 3, 3), 0);
    }

    private static void p33() {
        HeartHours x = quiet(0);
        due("cause", x.cause(0), 500);
        due("cause", x.cause(1), 1);
        due("cause", x.cause(2), 0);
        due("cause", x.cause(3), 0);
        due("cause", x.cause(4), BAD);
        due("cause", x.cause(-1), BAD);
        x.report(0, 1, 3, 3);
        due("mood 3 at first", x.cause(0), 50);
        due("cause", x.cause(3), 3);
        x.report(1, 1, 9, 9);
        // 6 more in hour 0: a baker with gift 9 alone
        due("cause", x.cause(0), 1);
        due("cause", x.cause(1), 1);
        due("cause", x.cause(2), 9);
        due("cause", x.cause(3), 3);
        x.forget();
        // down to 0 from 6: none; down by 3: a lawyer with gift 0 to 2
        x.report(0, 1, 6, 6);
        x.report(1, 1, 3, 3);
        due("cause", x.cause(0), 3);
        due("cause", x.cause(1), 2);
        due("cause", x.cause(2), 0);
        x.report(1, 0, 5, 5);
        due("hands: 6 less 1", x.cause(0), 3);
        x.report(2, 1, 3, 3);
        due("it comes in even hours only", x.cause(0), 3);
        x.report(3, 1, 0, 0);
        due("and in hour 2 again", x.cause(0), 3);
        x.report(15, 0, 0, 1);
        due("cause", x.cause(0), 0);
        due("cause", x.cause(1), NONE);
        due("cause", x.cause(2), NONE);
        due("cause", x.cause(3), NONE);
        due("bad", x.cause(4), BAD);
        // the greatest k first; news count
        HeartHours w = quiet(0);
        w.report(2, 1, 9, 9);
        w.report(0, 1, 0, 0);
        due("0 to 9 in two hours: none", w.cause(0), 0);
        w.news(1, 12);
        due("a baker by 6, news by 3", w.cause(0), 1);
        due("a baker", w.cause(1), 1);
        due("with gift 9", w.cause(2), 9);
        // a candle brings nothing in hour 4, which leaves 1 by 3; a book does
        HeartHours y = quiet(0);
        y.ends(1);
        y.report(0, 1, 0, 0);
        y.report(4, 1, 2, 2);
        y.report(5, 1, 2, 2);
        // candle with gift 0 to 2: 1 in hours 0 and 2, 0 in 4; doctor with gift 0 to 2: 1 in each; book: 1 in each;
        // a baker with gift 3 to 5: 2 and 2 is 4
        due("candles", y.cause(0), 3);
        due("candles", y.cause(1), 5);
    }

    private static void p34() {
        HeartHours x = quiet(0);
        due("liar, no reports", x.liar(), NONE);
        x.report(0, 1, 3, 3);
        due("some fit", x.liar(), NONE);
        x.report(0, 1, 4, 4);
        due("either: the least", x.liar(), 0);
        x.report(0, 1, 3, 5);
        due("either", x.liar(), 0);
        x.report(0, 1, 3, 3);
        due("now it is 1", x.liar(), 1);
        x.report(0, 1, 4, 4);
        due("no such report", x.liar(), NONE);
        x.forget();
        x.report(0, 1, 4, 4);
        x.report(0, 1, 3, 3);
        due("either: the least", x.liar(), 0);
        x.forget();
        x.report(0, 0, 1, 1);
        due("hands are 0 at first", x.liar(), 0);
    }

    private static void p35() {
        HeartHours x = new HeartHours();
        due("seed", x.seed(-5), 1);
        due("seed", x.seed(Integer.MIN_VALUE), -5);
        due("seed", x.seed(Integer.MAX_VALUE), Integer.MIN_VALUE);
        due("seed", x.seed(0), Integer.MAX_VALUE);
        x.lot();
        due("z by lot", x.seed(1), 12345);
        x.lot();
        due("z by lot", x.seed(1), 1103515245 + 12345);
    }

    private static void p36() {
        // from 1, z >>> 16 is 16838: leaves 0 by 2, 2 by 3, 2 by 4
        HeartHours x = quiet(4);
        x.guild(4, 0, 0, 0);
        due("act 0", x.lot(), 0);
        due("hour", x.state(0), 1);
        HeartHours y = quiet(4);
        y.guild(1, 0, 0, 0);
        y.guild(4, 0, 0, 0);
        due("act 2: the book", y.lot(), 12);
        due("done", y.state(5), 2);
        due("score", y.state(2), 12);
        y.ends(1);
        int z = y.seed(9);
        y.seed(z);
        due("over", y.lot(), STATE);
        due("z stays", y.seed(1), z);
        // negative z: >>> leaves none below 0
        HeartHours w = quiet(4);
        for (int k = 0; k < 6; k++) w.guild(4, 0, 0, 0);
        w.seed(2);
        int next = 2 * 1103515245 + 12345;
        due("lot", w.lot(), (next >>> 16) % 7 == 0 ? 0 : 12);
        due("who", w.state(5), (next >>> 16) % 7 == 0 ? 0 : 1 << (next >>> 16) % 7 - 1);
    }

    private static void p37() {
        HeartHours x = quiet(4);
        x.guild(4, 0, 0, 0);
        x.ends(1);
        // one hour, one guild: it comes (12) where z >>> 16 is odd
        int z = 1, come = 0;
        for (int i = 0; i < 40; i++) {
            z = z * 1103515245 + 12345;
            come += z >>> 16 & 1;
        }
        due("times", x.times(40, 12), come);
        due("times", x.times(40, 13), 0);
        due("times", x.times(40, 1), come);
        due("times", x.times(40, 0), 40);
        due("times", x.times(1, 999), 0);
        int[][] bad = {{0, 0}, {41, 0}, {-1, 0}, {1, -1}, {1, 1000}};
        for (int[] b : bad) due("times", x.times(b[0], b[1]), BAD);
        due("z is as it was", x.seed(1), 1);
        due("hour is as it was", x.state(0), 0);
        due("waits is as it was", x.state(4), 1);
        due("score is as it was", x.state(2), 0);
        x.hour();
        due("over: worth 0", x.times(7, 0), 7);
        due("over: worth 0", x.times(7, 1), 0);
    }

    // ---- rows

    private static void p38() {
        HeartHours x = two();
        due("prove", x.prove(4), 4);
        due("many", x.many(4), 4);
        int[][] rows = {{1, 15, 1}, {2, 12, 3}, {0, 0, 3}, {0, 0, 3}};
        for (int k = 0; k < 4; k++) for (int what = 0; what < 3; what++) due("row " + k + " " + what, x.row(k, what), rows[k][what]);
        due("prove", x.prove(5), BAD);
        due("prove", x.prove(-1), BAD);
        due("rows stay", x.many(4), 4);
        due("prove", x.prove(0), 0);
        due("many", x.many(4), 0);
        x.ends(2);
        due("fewer", x.prove(4), 2);
        due("nothing else changed", x.state(0), 0);
        due("nothing else changed", x.state(5), 0);
        due("nothing else changed", x.state(2), 0);
    }

    private static void p39() {
        HeartHours x = two();
        due("no rows", x.row(0, 0), -9);
        x.prove(2);
        due("row", x.row(1, 0), 2);
        due("row", x.row(1, 1), 12);
        due("row", x.row(1, 2), 3);
        due("row", x.row(2, 0), -9);
        due("row", x.row(-1, 0), -9);
        due("row", x.row(0, 3), -9);
        due("row", x.row(0, -1), -9);
        for (int e : EDGES) due("row", x.row(e, e), -9);
    }

    private static void p40() {
        HeartHours x = two();
        due("no rows", x.alterRow(0, 0, 1), -9);
        x.prove(2);
        due("alterRow", x.alterRow(1, 1, -77), 12);
        due("alterRow", x.alterRow(1, 1, Integer.MIN_VALUE), -77);
        due("row", x.row(1, 1), Integer.MIN_VALUE);
        due("alterRow", x.alterRow(2, 0, 1), -9);
        due("alterRow", x.alterRow(-1, 0, 1), -9);
        due("alterRow", x.alterRow(0, 3, 1), -9);
        due("alterRow", x.alterRow(0, -1, 1), -9);
        due("the others stay", x.row(0, 0), 1);
        due("the others stay", x.row(1, 2), 3);
    }

    private static void p41() {
        HeartHours x = two();
        due("no rows", x.judge(), 0);
        x.prove(4);
        due("judge", x.judge(), 0);
        x.alterRow(3, 2, 2);
        due("done is another", x.judge(), 4);
        x.alterRow(1, 1, 11);
        due("worth is another", x.judge(), 2);
        x.alterRow(0, 0, 3);
        due("no act", x.judge(), 1);
        x.alterRow(0, 0, -1);
        due("no act", x.judge(), 1);
        x.prove(4);
        x.alterRow(2, 0, 1);
        due("another act to the same end is right", x.judge(), 0);
        x.ends(3);
        due("over ahead of the last", x.judge(), 4);
        x.hour();
        due("from how it is now", x.judge(), 1);
        due("nothing changed", x.state(0), 1);
        x.ends(1);
        due("over", x.judge(), 1);
        x.prove(4);
        due("no rows", x.judge(), 0);
    }

    // ---- the host

    private static void p42() {
        HeartHours x = new HeartHours();
        for (int sort = 0; sort < 5; sort++) {
            due("sheet", x.sheet(3, sort, 40), 1);
            for (int i = 0; i < 40; i++) {
                due("all 0", x.item(3, sort, i), 0);
                x.write(3, i, 1);
            }
            due("item", x.item(3, sort, 40), -12);
        }
        due("sheet", x.sheet(0, 0, 0), 1);
        due("item", x.item(0, 0, 0), -12);
        int[][] bad = {{4, 0, 1}, {-1, 0, 1}, {0, 5, 1}, {0, -2, 1}, {0, 0, 41}, {4, 0, -1}, {0, 5, -1}, {-1, -1, 0}};
        for (int[] b : bad) due("sheet", x.sheet(b[0], b[1], b[2]), BAD);
        due("sheet", x.sheet(3, 0, -1), -14);
        due("sheet", x.sheet(3, 0, Integer.MIN_VALUE), -14);
        due("it stays", x.item(3, 4, 39), 1);
        due("missing; n counts nothing", x.sheet(3, -1, 99), 1);
        due("missing", x.item(3, 4, 39), -11);
        due("missing", x.sheet(3, -1, -99), 1);
    }

    private static void p43() {
        HeartHours x = new HeartHours();
        due("missing", x.write(0, 0, 1), -11);
        due("missing", x.write(0, 99, 1), -11);
        due("no such sheet", x.write(4, 0, 1), BAD);
        due("no such sheet", x.write(-1, 0, 1), BAD);
        int[] narrowed = {0x78, 0x5678, 0x12345678, 0x12345678, 1};
        int[] below = {-128, -128, -128, -128, 1};
        for (int sort = 0; sort < 5; sort++) {
            x.sheet(0, sort, 2);
            due("write", x.write(0, 1, 0x12345678), 1);
            due("narrowed", x.item(0, sort, 1), narrowed[sort]);
            due("write", x.write(0, 0, -128), 1);
            due("below 0", x.item(0, sort, 0), below[sort]);
            due("write", x.write(0, 0, 0), 1);
            due("0", x.item(0, sort, 0), 0);
            due("outside", x.write(0, 2, 1), -12);
            due("outside", x.write(0, -1, 1), -12);
            for (int e : EDGES) due("outside", x.write(0, e, 1), -12);
        }
        x.sheet(0, 0, 1);
        x.write(0, 0, 200);
        due("byte 200", x.item(0, 0, 0), -56);
        x.sheet(0, 1, 1);
        x.write(0, 0, 40000);
        due("short 40000", x.item(0, 1, 0), -25536);
    }

    private static void p44() {
        HeartHours x = new HeartHours();
        x.sheet(1, 3, 2);
        x.write(1, 1, -1);
        due("item", x.item(1, 3, 1), -1);
        due("item", x.item(1, 3, 2), -12);
        due("item", x.item(1, 3, -1), -12);
        for (int sort = 0; sort < 5; sort++) {
            if (sort != 3) due("another sort", x.item(1, sort, 1), -13);
            if (sort != 3) due("another sort, outside", x.item(1, sort, 9), -13);
            due("missing", x.item(0, sort, 0), -11);
        }
        due("item", x.item(4, 3, 1), BAD);
        due("item", x.item(-1, 3, 1), BAD);
        due("item", x.item(1, 5, 1), BAD);
        due("item", x.item(1, -1, 1), BAD);
        x.write(1, 0, Integer.MIN_VALUE);
        due("an item as low as one likes", x.item(1, 3, 0), Integer.MIN_VALUE);
    }

    private static void acts(HeartHours x, int... acts) {
        x.sheet(0, 0, acts.length);
        for (int i = 0; i < acts.length; i++) x.write(0, i, acts[i]);
    }

    private static void p45() {
        HeartHours x = two();
        acts(x, 7, -1, 1, 2, 0);
        due("goAll", x.goAll(0, 0, 0), 0);
        due("what is none is left out", x.goAll(0, 0, 2), 0);
        due("hour", x.state(0), 0);
        due("goAll", x.goAll(0, 0, 5), 27);
        due("hour", x.state(0), 3);
        due("score", x.state(2), 27);
        due("done", x.state(5), 3);
        due("outside: what stood ahead was done", x.goAll(0, 4, 3), -12);
        due("hour", x.state(0), 4);
        due("outside", x.goAll(0, -1, 1), -12);
        due("outside", x.goAll(0, Integer.MAX_VALUE, 2), -12);
        due("outside, but none of it", x.goAll(0, 99, 0), 0);
        int[][] bad = {{4, 0, 0}, {-1, 0, 0}, {0, 0, 21}, {0, 0, -1}, {1, 0, 21}};
        for (int[] b : bad) due("goAll", x.goAll(b[0], b[1], b[2]), BAD);
        due("missing", x.goAll(1, 0, 0), -11);
        x.sheet(2, 4, 1);
        due("another sort", x.goAll(2, 0, 0), -13);
        due("another sort", x.goAll(2, 9, 1), -13);
        due("hour", x.state(0), 4);
        x.ends(5);
        due("over is left out", x.goAll(0, 2, 3), 0);
        due("hour", x.state(0), 5);
        due("outside, though over", x.goAll(0, 4, 2), -12);
        x.anew();
        x.sheet(3, 0, 20);
        x.write(3, 19, 1);
        due("twenty items, five hours", x.goAll(3, 0, 20), 0);
        x.anew();
        x.heart(0, 4);
        due("the last sheet's last item", x.goAll(3, 19, 1), 15);
    }

    private static void p46() {
        HeartHours x = two();
        acts(x, 1, 2, 0, 3);
        due("wouldBe", x.wouldBe(0, 0, 0), 0);
        due("wouldBe", x.wouldBe(0, 0, 1), 15);
        due("wouldBe", x.wouldBe(0, 0, 3), 27);
        due("3 is no act", x.wouldBe(0, 0, 4), STATE);
        due("3 is no act, ahead of what is outside", x.wouldBe(0, 3, 2), STATE);
        due("nothing changed", x.state(0), 0);
        due("nothing changed", x.state(2), 0);
        due("nothing changed", x.state(4), 3);
        x.write(0, 3, 0);
        due("outside", x.wouldBe(0, 3, 2), -12);
        due("outside", x.wouldBe(0, -1, 1), -12);
        due("outside", x.wouldBe(0, Integer.MAX_VALUE, 2), -12);
        x.ends(2);
        due("over ahead of the third", x.wouldBe(0, 0, 3), STATE);
        due("not yet", x.wouldBe(0, 0, 2), 27);
        due("outside, and over too", x.wouldBe(0, 2, 3), -12);
        int[][] bad = {{4, 0, 0}, {-1, 0, 0}, {0, 0, 21}, {0, 0, -1}};
        for (int[] b : bad) due("wouldBe", x.wouldBe(b[0], b[1], b[2]), BAD);
        due("missing", x.wouldBe(1, 0, 0), -11);
        x.sheet(2, 1, 1);
        due("another sort", x.wouldBe(2, 0, 0), -13);
        x.sheet(3, 0, 40);
        x.write(3, 39, 1);
        due("the last sheet's last item", x.wouldBe(3, 39, 1), 15);
        x.ends(16);
        due("sixteen hours", x.wouldBe(3, 0, 16), 0);
        due("twenty hours", x.wouldBe(3, 0, 20), STATE);
    }

    private static void p47() {
        HeartHours x = two();
        int[][] bad = {{4, 2, 0}, {-1, 2, 0}, {0, 3, 0}, {0, -1, 0}, {0, 0, 2}, {0, 0, -1}, {0, 1, 4}, {0, 1, -1}};
        due("shelf", x.shelf(0, 0, 1), 1);
        for (int[] b : bad) due("shelf", x.shelf(b[0], b[1], b[2]), BAD);
        due("it stays", x.taken(0, 4), 1);
        due("nothing", x.shelf(0, 2, -99), 1);
        due("nothing", x.taken(0, 4), -11);
        x.shelf(0, 0, 0);
        due("a missing row is nothing", x.shelf(0, 1, 3), 1);
        due("nothing", x.taken(0, 10), -11);
        x.sheet(3, 2, 7);
        due("still nothing: it was missing then", x.taken(0, 12), -11);
        due("a row", x.shelf(3, 1, 3), 1);
        due("taken", x.taken(3, 12), 7);
        x.sheet(3, 0, 2);
        due("the shelf holds the row, not the sheet", x.taken(3, 12), 7);
    }

    private static void p48() {
        HeartHours x = new HeartHours();
        for (int kind = 1; kind <= 5; kind++) x.guild(kind, 0, 0, 0);
        int[] fits = {1 | 2, 1 | 4, 1 | 4 | 8, 1 | 16, 1 | 16 | 32};
        for (int k = 0; k < 5; k++) {
            x.shelf(0, 0, k);
            for (int as = 0; as <= 5; as++) due("kind " + (k + 1) + " as " + as, x.taken(0, as), (fits[k] >> as & 1) == 1 ? k : -13);
            for (int as = 10; as <= 14; as++) due("no row", x.taken(0, as), -13);
        }
        x.remake(4, 1);
        due("as it is now", x.taken(0, 1), 4);
        for (int sort = 0; sort < 5; sort++) {
            x.sheet(sort % 4, sort, sort * 3);
            x.shelf(1, 1, sort % 4);
            for (int as = 10; as <= 14; as++) due("row", x.taken(1, as), as - 10 == sort ? sort * 3 : -13);
            for (int as = 0; as <= 5; as++) due("no thing", x.taken(1, as), -13);
        }
        for (int as = 0; as <= 14; as++) due("nothing", x.taken(2, as), as > 5 && as < 10 ? BAD : -11);
        due("taken", x.taken(0, 15), BAD);
        due("taken", x.taken(0, -1), BAD);
        due("taken", x.taken(4, 0), BAD);
        due("taken", x.taken(-1, 0), BAD);
        HeartHours y = new HeartHours();
        y.keep();
        y.guild(1, 0, 0, 0);
        y.shelf(0, 0, 0);
        y.again();
        due("no such guild at the time", y.taken(0, 0), -11);
        due("nothing to act", y.act(0, 0, 1), 0);
        y.guild(4, 0, 0, 0);
        due("by its number", y.taken(0, 4), 0);
    }

    private static void traceIs(HeartHours x, int... bodies) {
        due("many(6)", x.many(6), bodies.length);
        for (int i = 0; i < bodies.length; i++) due("trace(" + i + ")", x.trace(i), bodies[i]);
        due("trace", x.trace(bodies.length), NONE);
    }

    private static void p49() {
        HeartHours x = new HeartHours();
        // numbers 0 to 4 of kinds 1 to 5, streets 2, 3, 5, 1, 2: a - n is 2, 2, 3, -2, -2
        int[] streets = {2, 3, 5, 1, 2};
        for (int kind = 1; kind <= 5; kind++) x.guild(kind, 0, 0, streets[kind - 1]);
        for (int k = 0; k < 4; k++) x.shelf(k, 0, k);
        due("baker knocks 7: 21 - 0 - 3", x.act(0, 0, 7), 18);
        traceIs(x, 20, 10);
        due("baker tells 7: 18 + 4", x.act(0, 1, 7), 22);
        traceIs(x, 11, 20, 10);
        due("baker thanks 7: by 2", x.act(0, 2, 7), 1);
        traceIs(x, 12);
        due("below 0 if x is", x.act(0, 2, -7), -1);
        due("baker deals 7: 22 ^ 1", x.act(0, 3, 7), 23);
        traceIs(x, 13, 11, 20, 10, 12);
        due("lawyer 1 knocks 7: 21 - 1", x.act(1, 0, 7), 20);
        traceIs(x, 10);
        due("lawyer 1 tells 7: 6 * 3 - 1 + 6", x.act(1, 1, 7), 23);
        traceIs(x, 30, 11, 10);
        due("lawyer 1 deals 7: 23 ^ 1", x.act(1, 3, 7), 22);
        traceIs(x, 13, 30, 11, 10, 12);
        due("doctor 2 knocks 7: 19 ^ 9", x.act(2, 0, 7), 26);
        traceIs(x, 50, 10);
        due("doctor 2 tells 7: (13 ^ 9) + 10", x.act(2, 1, 7), 14);
        traceIs(x, 30, 11, 50, 10);
        // deals 7: tells(7) ^ (7 by 3) = 14 ^ 1 = 15, less tells(5) = ((3 * 3 - 2) ^ 9) + 10 = 24
        due("doctor 2 deals 7", x.act(2, 3, 7), -9);
        traceIs(x, 51, 13, 30, 11, 50, 10, 12, 30, 11, 50, 10);
        due("book 3 thanks 7: 1 - 7 by -2", x.act(3, 2, 7), 0);
        traceIs(x, 40, 12);
        due("book 3 deals 7: (21 - 3 + 2) ^ 0", x.act(3, 3, 7), 20);
        traceIs(x, 13, 11, 10, 40, 12);
        x.shelf(0, 0, 4);
        due("candle 4 tells 7: (21 - 4 + 4) * 4", x.act(0, 1, 7), 84);
        traceIs(x, 60, 11, 10);
        due("candle 4 thanks 7: 1 - 1 + (2 * 3 - 4)", x.act(0, 2, 7), 2);
        traceIs(x, 61, 40, 12, 10);
        due("candle 4 deals 7: 84 ^ 2", x.act(0, 3, 7), 86);
        traceIs(x, 13, 60, 11, 10, 61, 40, 12, 10);
        due("ints wrap", x.act(1, 0, Integer.MAX_VALUE), Integer.MAX_VALUE - 3);
        partedByZero(x);
        int[][] none = {{4, 0}, {-1, 0}, {0, 4}, {0, -1}};
        for (int[] n : none) {
            x.act(0, 0, 1);
            due("no such shelf, act", x.act(n[0], n[1], 7), 0);
            traceIs(x);
        }
        x.act(0, 0, 1);
        x.shelf(1, 2, 0);
        due("nothing", x.act(1, 0, 7), 0);
        traceIs(x);
        x.act(0, 0, 1);
        x.sheet(0, 0, 3);
        x.shelf(1, 1, 0);
        due("a row", x.act(1, 0, 7), 0);
        traceIs(x);
    }

    private static void partedByZero(HeartHours x) {
        x.change(4, 3, 4);
        x.change(2, 3, 2);
        due("candle thanks, by 0", x.act(0, 2, 7), -15);
        traceIs(x, 61, 40, 12);
        due("doctor deals, by 0", x.act(2, 3, 7), -15);
        traceIs(x, 51, 13, 30, 11, 50, 10, 12);
        due("doctor tells still", x.act(2, 1, 7), (5 * 3 - 2 ^ 9) + 4);
        traceIs(x, 30, 11, 50, 10);
    }

    private static void p50() {
        HeartHours x = two();
        due("trace", x.trace(0), NONE);
        x.shelf(0, 0, 0);
        x.act(0, 1, 3);
        traceIs(x, 11, 20, 10);
        due("trace", x.trace(-1), NONE);
        for (int e : EDGES) due("trace", x.trace(e), NONE);
        x.hour();
        x.anew();
        traceIs(x, 11, 20, 10);
        x.act(0, 2, 3);
        due("the latest act: 3 by 0 - 0", x.act(0, 2, 3), -15);
        traceIs(x, 12);
    }

    private static void p51() {
        HeartHours x = two();
        tell(x, "book wait; guild come; baker leave;");
        x.change(1, 5, 1);
        for (int r = 0; r < 4; r++) x.report(0, 0, 0, 0);
        x.prove(3);
        x.feed(0, 5);
        x.shelf(0, 0, 1);
        x.act(0, 1, 1);
        int[] now = {2, 3, 1, 4, 3, 5, 2};
        for (int what = 0; what <= 6; what++) due("many(" + what + ")", x.many(what), now[what]);
        due("many", x.many(7), BAD);
        due("many", x.many(-1), BAD);
        for (int e : EDGES) due("many", x.many(e), BAD);
    }

    // ---- kept

    private static void p52() {
        HeartHours x = two();
        due("keep", x.keep(), 1);
        x.guild(1, 0, 0, 0);
        due("keep", x.keep(), 1);
        x.guild(1, 0, 0, 0);
        due("the latest", x.again(), 3);
    }

    private static void p53() {
        HeartHours x = two();
        due("nothing is kept", x.again(), NONE);
        due("it stays", x.many(0), 2);
        tell(x, "book leave;");
        x.news(2, 9);
        x.street(3, 0, 8);
        x.street(3, 1, 9);
        x.ends(9);
        x.seed(123);
        x.report(0, 1, 2, 3);
        x.hour();
        x.heart(0, 6);
        x.heart(1, 33);
        x.keep();
        // all of it becomes another
        x.again();
        tell(x, "guild come; guild wait;");
        x.news(2, 1);
        x.street(3, 0, 1);
        x.street(3, 1, 1);
        x.anew();
        x.ends(4);
        x.seed(5);
        x.forget();
        x.report(1, 1, 4, 4);
        x.report(0, 1, 0, 9);
        x.remake(0, 3);
        x.change(0, 1, 50);
        x.change(0, 2, 7);
        x.change(0, 3, 4);
        x.guild(1, 1, 1, 1);
        // what isn't kept
        x.feed(0x20, 1);
        x.prove(1);
        x.sheet(2, 2, 3);
        x.write(2, 1, 77);
        x.shelf(2, 0, 2);
        x.shelf(1, 1, 2);
        x.act(2, 0, 1);
        for (int twice = 0; twice < 2; twice++) {
            due("again", x.again(), 2);
            int[] state = {1, 9, 15, 0, 2, 1, 3, 6, 33};
            for (int what = 0; what <= 8; what++) due("state(" + what + ")", x.state(what), state[what]);
            int[] guild = {1, 0, 0, 0, 0, 1};
            for (int what = 0; what <= 5; what++) due("guildOf(0, " + what + ")", x.guildOf(0, what), guild[what]);
            due("rules", x.many(1), 1);
            due("will", x.guildOf(1, 8), 2);
            due("reports", x.many(3), 1);
            due("what it reports", x.cause(0), 100);
            due("street", x.streetOf(3, 0), 8);
            due("street", x.streetOf(3, 1), 9);
            due("news", x.news(2, 5), 9);
            due("z", x.seed(6), 123);
            due("the tape stays", x.many(5), 1);
            due("rows stay", x.many(4), 1);
            due("sheets stay", x.item(2, 2, 1), 77);
            due("shelves stay", x.taken(1, 12), 3);
            due("the guild on it is gone", x.taken(2, 0), -11);
            due("the trace stays", x.trace(0), 20);
        }
    }

    public static void main(String[] args) throws Exception {
        for (promise = 1; promise <= 53; promise++) {
            PromiseTest.class.getDeclaredMethod("p" + promise).invoke(null);
        }
        System.out.println(checks + " answers asked, " + wrong + " not as due");
        if (wrong != 0) System.exit(1);
    }
}
