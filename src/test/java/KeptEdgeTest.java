import java.util.function.Consumer;

/** The edges of promises 52 and 53: what is kept, what comes back, and what is neither. */
public final class KeptEdgeTest extends Edge {
    public static void main(String[] args) throws Exception {
        new KeptEdgeTest().run(52, 53);
    }

    // ---- 52: keep

    void p52_itAnswers1() {
        due(new HeartHours(), 1, "keep");
        due(busy(), 1, "keep");
        HeartHours x = six();
        due(x, 1, "keep");
        due(x, 1, "keep");
    }

    void p52_nothingThatStandsChanges() {
        HeartHours x = busy();
        x.keep();
        HeartHours y = busy();
        for (int what = 0; what <= 8; what++) due(x, y.state(what), "state", what);
        for (int what = 0; what <= 6; what++) due(x, y.many(what), "many", what);
        for (int k = 0; k < 5; k++) for (int what = 0; what <= 9; what++) due(x, y.guildOf(k, what), "guildOf", k, what);
    }

    void p52_theLatestIsKept() {
        HeartHours x = two();
        x.keep();
        x.guild(1, 0, 0, 0);
        x.keep();
        x.guild(1, 0, 0, 0);
        due(x, 3, "again");
    }

    void p52_itMayBeOverThen() {
        HeartHours x = over();
        x.keep();
        x.anew();
        due(x, 2, "again");
        due(x, 1, "state", 3);
        due(x, STATE, "hour");
    }

    /** What that changes comes back as it was kept. */
    private void kept(String what, Consumer<HeartHours> change) {
        HeartHours x = busy();
        x.keep();
        change.accept(x);
        due(x, 5, "again");
        HeartHours y = busy();
        y.keep();
        alike(what, x, y);
    }

    void p52_guildsAreKept() {
        kept("a guild more", x -> x.guild(1, 1, 1, 1));
        for (int what = 1; what <= 5; what++) {
            int which = what;
            kept("a change of " + what, x -> x.change(2, which, x.guildOf(2, which) == 0 ? 1 : 0));
        }
        kept("another kind", x -> x.remake(2, 5));
    }

    void p52_theTownIsKept() {
        for (int h = 0; h < 16; h++) {
            int hour = h;
            kept("news of " + h, x -> x.news(hour, 11));
        }
        for (int f = 0; f < 6; f++) {
            int street = f;
            kept("shift of " + f, x -> x.street(street, 0, 8));
            kept("bear of " + f, x -> x.street(street, 1, 9));
        }
        kept("mood", x -> x.heart(0, 0));
        kept("hands", x -> x.heart(1, 98));
        kept("end", x -> x.ends(16));
    }

    void p52_hourAndScoreAreKept() {
        kept("an hour", HeartHours::hour);
        kept("a lot", HeartHours::lot);
        kept("anew", HeartHours::anew);
    }

    void p52_zIsKept() {
        kept("a seed", x -> x.seed(LOWEST));
    }

    void p52_reportsAreKept() {
        kept("none", HeartHours::forget);
        kept("one more", x -> x.report(0, 1, 0, 0));
        kept("others", x -> {
            x.forget();
            x.report(0, 1, 9, 9);
            x.report(0, 0, 1, 1);
        });
    }

    void p52_sixReportsAreKept() {
        HeartHours x = quiet(5);
        for (int r = 0; r < 6; r++) x.report(0, 1, 0, 9 - r);
        x.keep();
        due(x, 250, "cause", 0);
        x.forget();
        for (int r = 0; r < 6; r++) x.report(15 - r, 1, 9, 9);
        due(x, 0, "again");
        due(x, 6, "many", 3);
        due(x, 250, "cause", 0);
        due(x, -2, "report", 0, 0, 0, 0);
    }

    void p52_rulesAreKept() {
        HeartHours x = busyWithoutTape();
        x.keep();
        due(x, 1, "guildOf", 4, 8);
        tell(x, "guild leave; guild if hour=1 and (mood=2 or gift>3) come; candle come;");
        due(x, 2, "guildOf", 4, 8);
        due(x, 3, "many", 1);
        x.again();
        due(x, 2, "many", 1);
        due(x, 1, "guildOf", 4, 8);
        due(x, 2, "guildOf", 3, 8);
        due(x, 0, "guildOf", 0, 8);
    }

    void p52_noRulesAreKeptToo() {
        HeartHours x = lone(1, 0, 0);
        x.keep();
        tell(x, "guild leave;");
        x.again();
        due(x, 0, "many", 1);
        due(x, 0, "guildOf", 0, 8);
    }

    // ---- 53: again

    void p53_noneIfNothingIsKept() {
        still(Edge::two, NONE, "again");
        still(HeartHours::new, NONE, "again");
        still(Edge::over, NONE, "again");
    }

    void p53_itAnswersHowManyGuilds() {
        HeartHours x = new HeartHours();
        x.keep();
        x.guild(1, 0, 0, 0);
        due(x, 0, "again");
        due(x, 0, "many", 0);
        HeartHours y = six();
        y.keep();
        due(y, 6, "again");
        due(busy(), 1, "again");
    }

    void p53_whatWasKeptStays() {
        HeartHours x = two();
        x.keep();
        for (int i = 0; i < 3; i++) {
            x.hour();
            x.guild(1, 0, 0, 0);
            x.remake(0, 3);
            x.change(0, 1, 50);
            x.street(0, 1, 0);
            x.news(0, 15);
            tell(x, "guild leave;");
            x.report(0, 1, 9, 9);
            due(x, 2, "again");
            due(x, 0, "state", 0);
            due(x, 1, "guildOf", 0, 0);
            due(x, 0, "guildOf", 0, 1);
            due(x, 3, "streetOf", 0, 1);
            due(x, 0, "many", 1);
            due(x, 500, "cause", 0);
            due(x, 27, "on", 2);
        }
        x.again();
        HeartHours y = two();
        y.keep();
        y.again();
        alike("again", x, y);
    }

    void p53_whatWasKeptBecomesNoPartOfWhatStands() {
        HeartHours x = two();
        x.keep();
        x.again();
        x.hour();
        x.change(1, 2, 9);
        due(x, 2, "again");
        due(x, 3, "state", 4);
        due(x, 0, "guildOf", 1, 2);
    }

    void p53_theTapeIsNotKept() {
        HeartHours x = busyWithoutTape();
        x.keep();
        feedText(x, "guild wait;");
        x.again();
        due(x, 11, "many", 5);
        due(x, 1, "rules");
        HeartHours y = busy();
        y.keep();
        y.rules();
        y.again();
        due(y, 0, "many", 5);
    }

    void p53_rowsAreNotKept() {
        HeartHours x = busy();
        x.keep();
        x.prove(4);
        x.alterRow(3, 1, 55);
        x.again();
        due(x, 4, "many", 4);
        due(x, 55, "row", 3, 1);
        x.keep();
        x.prove(0);
        x.again();
        due(x, 0, "many", 4);
    }

    void p53_sheetsAreNotKept() {
        HeartHours x = busy();
        x.keep();
        x.write(0, 0, 99);
        x.sheet(1, -1, 0);
        x.sheet(3, 2, 5);
        x.again();
        due(x, 99, "item", 0, 0, 0);
        due(x, -11, "item", 1, 3, 0);
        due(x, 0, "item", 3, 2, 4);
    }

    void p53_shelvesAreNotKept() {
        HeartHours x = busy();
        x.keep();
        x.shelf(0, 0, 0);
        x.shelf(1, 2, 0);
        x.shelf(2, 1, 2);
        x.again();
        due(x, 0, "taken", 0, 1);
        due(x, -11, "taken", 1, 13);
        due(x, 1, "taken", 2, 14);
    }

    void p53_theTraceIsNotKept() {
        HeartHours x = busy();
        x.keep();
        x.act(3, 0, 1);
        x.again();
        due(x, 1, "many", 6);
        due(x, 10, "trace", 0);
    }
}
