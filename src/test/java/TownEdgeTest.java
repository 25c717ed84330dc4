/** The edges of promises 1 to 12: the town, its guilds, streets, news, and what is set in it. */
public final class TownEdgeTest extends Edge {
    public static void main(String[] args) throws Exception {
        new TownEdgeTest().run(1, 12);
    }

    // ---- 1: a new object

    void p1_theRefusalsAreNumberedAsTold() {
        same("BAD", HeartHours.BAD, -1);
        same("FULL", HeartHours.FULL, -2);
        same("NONE", HeartHours.NONE, -3);
        same("STATE", HeartHours.STATE, -4);
    }

    void p1_thereAreNoGuilds() {
        due(new HeartHours(), 0, "many", 0);
        due(new HeartHours(), BAD, "guildOf", 0, 0);
        due(new HeartHours(), 0, "state", 4);
        due(new HeartHours(), 0, "state", 5);
    }

    void p1_thereAreNoRules() {
        HeartHours x = new HeartHours();
        due(x, 0, "many", 1);
        x.guild(1, 0, 0, 0);
        due(x, 0, "guildOf", 0, 8);
    }

    void p1_thereAreNoReports() {
        due(new HeartHours(), 0, "many", 3);
        due(new HeartHours(), 500, "cause", 0);
        due(new HeartHours(), NONE, "liar");
        due(new HeartHours(), 0, "forget");
    }

    void p1_nothingIsKept() {
        due(new HeartHours(), NONE, "again");
    }

    void p1_hourIs0AndEndIs12AtFirst() {
        due(new HeartHours(), 0, "state", 0);
        due(new HeartHours(), 12, "state", 1);
        due(new HeartHours(), 0, "state", 3);
    }

    void p1_scoreIs0AtFirst() {
        due(new HeartHours(), 0, "state", 2);
    }

    void p1_newsAre4AtFirstInEachHour() {
        HeartHours x = new HeartHours();
        for (int h = 0; h < 16; h++) due(x, 4, "news", h, 0);
    }

    void p1_moodIs5AndHandsAre0AtFirst() {
        due(new HeartHours(), 5, "state", 7);
        due(new HeartHours(), 0, "state", 8);
    }

    void p1_eachStreetShifts0AndBears3AtFirst() {
        for (int f = 0; f < 6; f++) {
            due(new HeartHours(), 0, "streetOf", f, 0);
            due(new HeartHours(), 3, "streetOf", f, 1);
        }
    }

    void p1_zIs1AtFirst() {
        due(new HeartHours(), 1, "seed", 5);
    }

    void p1_theTapeIsEmptyAtFirst() {
        due(new HeartHours(), 0, "many", 5);
        due(new HeartHours(), 1, "feed", 0, 1);
    }

    void p1_thereAreNoRowsAtFirst() {
        due(new HeartHours(), 0, "many", 4);
        due(new HeartHours(), -9, "row", 0, 0);
        due(new HeartHours(), 0, "judge");
    }

    void p1_sheetsAreMissingAtFirst() {
        for (int sheet = 0; sheet < 4; sheet++) {
            for (int sort = 0; sort < 5; sort++) due(new HeartHours(), -11, "item", sheet, sort, 0);
        }
    }

    void p1_shelvesHoldNothingAtFirst() {
        for (int shelf = 0; shelf < 4; shelf++) {
            due(new HeartHours(), -11, "taken", shelf, 0);
            due(new HeartHours(), -11, "taken", shelf, 10);
        }
    }

    void p1_thereIsNoTraceAtFirst() {
        due(new HeartHours(), 0, "many", 6);
        due(new HeartHours(), NONE, "trace", 0);
    }

    void p1_objectsShareNothing() {
        HeartHours x = new HeartHours();
        busy();
        alike("the making of another", x, new HeartHours());
        HeartHours one = busy();
        look(busy());
        alike("the use of another", one, busy());
    }

    void p1_anObjectIsGoodFor512Calls() {
        HeartHours x = new HeartHours();
        for (int i = 0; i < 170; i++) {
            x.feed(' ', 1);
            x.rules();
            x.keep();
        }
        due(x, 1, "seed", 44);
        due(x, 44, "seed", 1);
    }

    // ---- 2: guild

    void p2_kindIs1AtLeast() {
        HeartHours x = new HeartHours();
        due(x, 0, "guild", 1, 0, 0, 0);
        due(x, 1, "guildOf", 0, 0);
        refused(BAD, "guild", 0, 0, 0, 0);
        refused(BAD, "guild", -1, 0, 0, 0);
        refused(BAD, "guild", LOWEST, 0, 0, 0);
    }

    void p2_kindIs5AtMost() {
        HeartHours x = new HeartHours();
        due(x, 0, "guild", 5, 0, 0, 0);
        due(x, 5, "guildOf", 0, 0);
        refused(BAD, "guild", 6, 0, 0, 0);
        refused(BAD, "guild", HIGHEST, 0, 0, 0);
    }

    void p2_dueIs0AtLeast() {
        HeartHours x = new HeartHours();
        due(x, 0, "guild", 1, 0, 5, 5);
        due(x, 0, "guildOf", 0, 1);
        refused(BAD, "guild", 1, -1, 0, 0);
        refused(BAD, "guild", 1, LOWEST, 0, 0);
    }

    void p2_dueIs60AtMost() {
        HeartHours x = new HeartHours();
        due(x, 0, "guild", 1, 60, 0, 0);
        due(x, 60, "guildOf", 0, 1);
        refused(BAD, "guild", 1, 61, 0, 0);
        refused(BAD, "guild", 1, HIGHEST, 0, 0);
    }

    void p2_giftIs0AtLeast() {
        HeartHours x = new HeartHours();
        due(x, 0, "guild", 1, 7, 0, 5);
        due(x, 0, "guildOf", 0, 2);
        refused(BAD, "guild", 1, 0, -1, 0);
        refused(BAD, "guild", 1, 0, LOWEST, 0);
    }

    void p2_giftIs9AtMost() {
        HeartHours x = new HeartHours();
        due(x, 0, "guild", 1, 0, 9, 0);
        due(x, 9, "guildOf", 0, 2);
        refused(BAD, "guild", 1, 0, 10, 0);
        refused(BAD, "guild", 1, 0, HIGHEST, 0);
    }

    void p2_streetIs0AtLeast() {
        HeartHours x = new HeartHours();
        due(x, 0, "guild", 1, 7, 7, 0);
        due(x, 0, "guildOf", 0, 3);
        refused(BAD, "guild", 1, 0, 0, -1);
        refused(BAD, "guild", 1, 0, 0, LOWEST);
    }

    void p2_streetIs5AtMost() {
        HeartHours x = new HeartHours();
        due(x, 0, "guild", 1, 0, 0, 5);
        due(x, 5, "guildOf", 0, 3);
        refused(BAD, "guild", 1, 0, 0, 6);
        refused(BAD, "guild", 1, 0, 0, HIGHEST);
    }

    void p2_guildsAreNumberedAsTheyCome() {
        HeartHours x = new HeartHours();
        for (int k = 0; k < 6; k++) due(x, k, "guild", 1 + k % 5, 10 * k, k, k);
        for (int k = 0; k < 6; k++) due(x, 10 * k, "guildOf", k, 1);
    }

    void p2_thereAreSixAtMost() {
        HeartHours x = busy();
        due(x, 5, "guild", 1, 0, 0, 0);
        due(x, 6, "many", 0);
        still(Edge::six, FULL, "guild", 1, 0, 0, 0);
        still(Edge::six, FULL, "guild", 5, 60, 9, 5);
    }

    void p2_badIsNamedAheadOfFull() {
        still(Edge::six, BAD, "guild", 0, 0, 0, 0);
        still(Edge::six, BAD, "guild", 6, 0, 0, 0);
        still(Edge::six, BAD, "guild", 1, 61, 0, 0);
        still(Edge::six, BAD, "guild", 1, 0, 10, 0);
        still(Edge::six, BAD, "guild", 1, 0, 0, 6);
    }

    void p2_aNewOneWaitsAndIsNotDone() {
        HeartHours x = new HeartHours();
        x.guild(1, 0, 0, 0);
        due(x, 1, "guildOf", 0, 4);
        due(x, 0, "guildOf", 0, 5);
    }

    void p2_oneMayComeWhenItIsOver() {
        HeartHours x = over();
        due(x, 2, "guild", 1, 0, 0, 0);
        due(x, 6, "state", 4);
        due(x, 1, "state", 5);
    }

    void p2_aNumberThatIsFreeAgainIsGivenToOneThatWaits() {
        HeartHours x = two();
        x.keep();
        x.guild(1, 0, 0, 0);
        x.change(2, 4, 0);
        x.change(2, 5, 1);
        x.again();
        due(x, 2, "guild", 2, 1, 1, 1);
        due(x, 1, "guildOf", 2, 4);
        due(x, 0, "guildOf", 2, 5);
    }

    // ---- 3: guildOf

    void p3_noSuchGuildBelow0() {
        for (int what = 0; what <= 9; what++) still(BAD, "guildOf", -1, what);
        still(BAD, "guildOf", LOWEST, 0);
    }

    void p3_noSuchGuildBehindTheLast() {
        due(busy(), 5, "guildOf", 4, 0);
        for (int what = 0; what <= 9; what++) still(BAD, "guildOf", 5, what);
        still(BAD, "guildOf", HIGHEST, 0);
        still(Edge::six, 1, "guildOf", 5, 0);
        still(Edge::six, BAD, "guildOf", 6, 0);
    }

    void p3_whatIs0To9() {
        still(1, "guildOf", 0, 0);
        still(2, "guildOf", 0, 9);
        still(BAD, "guildOf", 0, -1);
        still(BAD, "guildOf", 0, 10);
        still(BAD, "guildOf", 0, LOWEST);
        still(BAD, "guildOf", 0, HIGHEST);
    }

    void p3_whatWasToldIsAnswered() {
        HeartHours x = lone(3, 44, 7);
        x.change(0, 3, 2);
        due(x, 3, "guildOf", 0, 0);
        due(x, 44, "guildOf", 0, 1);
        due(x, 7, "guildOf", 0, 2);
        due(x, 2, "guildOf", 0, 3);
    }

    void p3_waitsAndDoneAre1Or0() {
        HeartHours x = lone(1, 0, 0);
        due(x, 1, "guildOf", 0, 4);
        due(x, 0, "guildOf", 0, 5);
        x.hour();
        due(x, 0, "guildOf", 0, 4);
        due(x, 1, "guildOf", 0, 5);
    }

    /** A GUILD that comes in HOUR: 10 and what it CHEERS. */
    private void cheers(int want, int kind, int gift, int hour) {
        HeartHours x = quiet(4);
        x.ends(16);
        after(x, hour);
        x.guild(kind, 0, gift, 0);
        due(x, want, "guildOf", 0, 6);
    }

    void p3_bakerCheersTwiceTheThirdThatWasCut() {
        cheers(10, 1, 0, 0);
        cheers(10, 1, 2, 0);
        cheers(12, 1, 3, 0);
        cheers(12, 1, 5, 0);
        cheers(14, 1, 6, 0);
        cheers(14, 1, 8, 0);
        cheers(16, 1, 9, 0);
    }

    void p3_lawyerCheersBelow0() {
        cheers(7, 2, 0, 0);
        cheers(7, 2, 2, 0);
        cheers(8, 2, 3, 0);
        cheers(9, 2, 8, 0);
        cheers(10, 2, 9, 0);
        cheers(7, 2, 0, 1);
    }

    void p3_doctorCheers4MoreInEvenHoursAlone() {
        cheers(11, 3, 0, 0);
        cheers(7, 3, 0, 1);
        cheers(14, 3, 9, 2);
        cheers(10, 3, 9, 3);
        cheers(7, 3, 0, 15);
        cheers(11, 3, 0, 16);
    }

    void p3_bookCheersAtMost2() {
        cheers(11, 4, 0, 0);
        cheers(11, 4, 2, 0);
        cheers(12, 4, 3, 0);
        cheers(12, 4, 6, 0);
        cheers(12, 4, 9, 0);
        cheers(11, 4, 0, 1);
    }

    void p3_candleCheers0InHoursThatLeave1By3() {
        for (int hour = 0; hour <= 16; hour++) cheers(hour % 3 == 1 ? 10 : 11, 5, 2, hour);
        cheers(12, 5, 9, 0);
        cheers(10, 5, 9, 1);
        cheers(12, 5, 9, 2);
    }

    /** What the GUILD with that number PAYS. */
    private void pays(int want, int kind, int number) {
        HeartHours x = six();
        x.remake(number, kind);
        due(x, want, "guildOf", number, 7);
    }

    void p3_whatKindsPayByTheLeastNumberAndTheGreatest() {
        pays(6, 1, 0);
        pays(6, 1, 5);
        pays(4, 2, 0);
        pays(9, 2, 5);
        pays(8, 3, 0);
        pays(18, 3, 5);
        pays(3, 4, 0);
        pays(3, 4, 5);
    }

    void p3_candlePaysHalfOfBookCut() {
        pays(1, 5, 0);
        pays(1, 5, 5);
    }

    void p3_willIsComeIfNoRuleTells() {
        HeartHours x = lone(1, 0, 0);
        due(x, 0, "guildOf", 0, 8);
        tell(x, "book leave; baker if 1=2 wait;");
        due(x, 0, "guildOf", 0, 8);
    }

    void p3_willIs0Or1Or2() {
        HeartHours x = lone(1, 0, 0);
        tell(x, "baker come; guild leave;");
        due(x, 0, "guildOf", 0, 8);
        tell(x, "baker wait;");
        due(x, 1, "guildOf", 0, 8);
        tell(x, "baker leave;");
        due(x, 2, "guildOf", 0, 8);
    }

    void p3_willIsByMoodAsItIsNowAheadOfTheNews() {
        HeartHours x = lone(1, 0, 0);
        x.news(0, 4);
        tell(x, "baker if mood=4 leave;");
        due(x, 2, "guildOf", 0, 8);
        due(x, 15, "hour");
    }

    void p3_lateIs0WhereHandsAreAtDueWithShift() {
        HeartHours x = lone(1, 7, 0);
        x.street(0, 0, 9);
        x.heart(1, 16);
        due(x, 0, "guildOf", 0, 9);
        x.heart(1, 15);
        due(x, 1, "guildOf", 0, 9);
        x.heart(1, 17);
        due(x, 1, "guildOf", 0, 9);
    }

    void p3_lateIs99AtMost() {
        HeartHours x = lone(1, 0, 0);
        x.heart(1, 99);
        due(x, 99, "guildOf", 0, 9);
        HeartHours y = lone(1, 60, 0);
        y.street(0, 0, 9);
        due(y, 69, "guildOf", 0, 9);
    }

    // ---- 4: change

    void p4_noSuchGuild() {
        for (int what = 1; what <= 5; what++) {
            refused(BAD, "change", -1, what, 1);
            refused(BAD, "change", 5, what, 1);
        }
        refused(BAD, "change", LOWEST, 1, 1);
        refused(BAD, "change", HIGHEST, 1, 1);
        still(HeartHours::new, BAD, "change", 0, 1, 1);
    }

    void p4_whatIs1To5() {
        refused(BAD, "change", 0, 0, 1);
        refused(BAD, "change", 0, 6, 1);
        refused(BAD, "change", 0, -1, 1);
        refused(BAD, "change", 0, LOWEST, 1);
        refused(BAD, "change", 0, HIGHEST, 1);
    }

    private void changes(int what, int from, int to) {
        HeartHours x = busy();
        x.change(2, what, from);
        due(x, from, "change", 2, what, to);
        due(x, to, "guildOf", 2, what);
        due(x, to, "change", 2, what, to);
    }

    private void changeRefused(int what, int v) {
        refused(BAD, "change", 2, what, v);
    }

    void p4_dueIs0To60() {
        changes(1, 60, 0);
        changes(1, 0, 60);
        changeRefused(1, -1);
        changeRefused(1, 61);
        changeRefused(1, LOWEST);
        changeRefused(1, HIGHEST);
    }

    void p4_giftIs0To9() {
        changes(2, 9, 0);
        changes(2, 0, 9);
        changeRefused(2, -1);
        changeRefused(2, 10);
        changeRefused(2, LOWEST);
        changeRefused(2, HIGHEST);
    }

    void p4_streetIs0To5() {
        changes(3, 5, 0);
        changes(3, 0, 5);
        changeRefused(3, -1);
        changeRefused(3, 6);
        changeRefused(3, LOWEST);
        changeRefused(3, HIGHEST);
    }

    void p4_waitsIs0Or1() {
        changes(4, 1, 0);
        changes(4, 0, 1);
        changeRefused(4, -1);
        changeRefused(4, 2);
        changeRefused(4, LOWEST);
        changeRefused(4, HIGHEST);
    }

    void p4_doneIs0Or1() {
        changes(5, 1, 0);
        changes(5, 0, 1);
        changeRefused(5, -1);
        changeRefused(5, 2);
        changeRefused(5, LOWEST);
        changeRefused(5, HIGHEST);
    }

    void p4_nothingElseChanges() {
        int[] there = {9, 5, 1, 0, 1};
        for (int what = 1; what <= 5; what++) {
            HeartHours x = busy();
            int was = x.change(3, what, there[what - 1]);
            x.change(3, what, was);
            alike("a change there and back", x, busy());
        }
    }

    void p4_theLastOfSixIsChangedAlone() {
        HeartHours x = six();
        due(x, 1, "change", 5, 4, 0);
        due(x, 31, "state", 4);
        due(x, 0, "change", 5, 5, 1);
        due(x, 32, "state", 5);
    }

    // ---- 5: remake

    void p5_noSuchGuild() {
        refused(BAD, "remake", -1, 1);
        refused(BAD, "remake", 5, 1);
        refused(BAD, "remake", LOWEST, 1);
        refused(BAD, "remake", HIGHEST, 1);
        still(HeartHours::new, BAD, "remake", 0, 1);
    }

    void p5_kindIs1To5() {
        HeartHours x = busy();
        due(x, 5, "remake", 4, 1);
        due(x, 1, "remake", 4, 5);
        due(x, 5, "guildOf", 4, 0);
        refused(BAD, "remake", 0, 0);
        refused(BAD, "remake", 0, 6);
        refused(BAD, "remake", 0, -1);
        refused(BAD, "remake", 0, LOWEST);
        refused(BAD, "remake", 0, HIGHEST);
    }

    void p5_nothingElseChanges() {
        HeartHours x = busy();
        x.remake(3, 1);
        x.remake(3, 4);
        alike("a remake there and back", x, busy());
    }

    void p5_itsOwnKindIsNoRefusal() {
        still(1, "remake", 0, 1);
    }

    void p5_aShelfHoldsItAsItIsThen() {
        HeartHours x = busy();
        due(x, 2, "taken", 0, 3);
        x.remake(2, 1);
        due(x, -13, "taken", 0, 3);
        due(x, 2, "taken", 0, 1);
    }

    // ---- 6: news

    void p6_hourIs0To15() {
        HeartHours x = new HeartHours();
        due(x, 4, "news", 0, 5);
        due(x, 5, "news", 0, 4);
        due(x, 4, "news", 15, 6);
        due(x, 6, "news", 15, 4);
        refused(BAD, "news", -1, 0);
        refused(BAD, "news", 16, 0);
        refused(BAD, "news", LOWEST, 0);
        refused(BAD, "news", HIGHEST, 0);
    }

    void p6_newsAre0To15() {
        HeartHours x = new HeartHours();
        due(x, 4, "news", 7, 0);
        due(x, 0, "news", 7, 15);
        due(x, 15, "news", 7, 15);
        refused(BAD, "news", 7, -1);
        refused(BAD, "news", 7, 16);
        refused(BAD, "news", 7, LOWEST);
        refused(BAD, "news", 7, HIGHEST);
    }

    /** MOOD behind an HOUR with such NEWS. */
    private void moodBy(int news, int before, int behind) {
        HeartHours x = new HeartHours();
        x.news(0, news);
        x.heart(0, before);
        x.hour();
        due(x, behind, "state", 7);
    }

    void p6_betterIsHeldAt9() {
        moodBy(12, 5, 8);
        moodBy(12, 6, 9);
        moodBy(12, 7, 9);
        moodBy(12, 9, 9);
        moodBy(4, 8, 9);
        moodBy(4, 9, 9);
    }

    void p6_worseIsHeldAt0() {
        moodBy(13, 4, 1);
        moodBy(13, 3, 0);
        moodBy(13, 2, 0);
        moodBy(13, 0, 0);
        moodBy(5, 1, 0);
        moodBy(5, 0, 0);
    }

    void p6_evenerComesTo5AndNotBeyond() {
        moodBy(14, 9, 6);
        moodBy(14, 8, 5);
        moodBy(14, 7, 5);
        moodBy(14, 6, 5);
        moodBy(14, 5, 5);
        moodBy(14, 4, 5);
        moodBy(14, 3, 5);
        moodBy(14, 2, 5);
        moodBy(14, 1, 4);
        moodBy(6, 0, 1);
        moodBy(6, 9, 8);
    }

    void p6_noneChangesNoMood() {
        moodBy(15, 0, 0);
        moodBy(15, 9, 9);
        moodBy(3, 4, 4);
        moodBy(7, 6, 6);
    }

    void p6_forceOf0ChangesNoMood() {
        for (int way = 0; way < 4; way++) {
            moodBy(way, 0, 0);
            moodBy(way, 5, 5);
            moodBy(way, 9, 9);
        }
    }

    void p6_newsOfTheLastHourCount() {
        HeartHours x = quiet(4);
        x.ends(16);
        x.news(15, 8);
        after(x, 15);
        due(x, 4, "state", 7);
        x.hour();
        due(x, 6, "state", 7);
    }

    void p6_newsOfAnHourThatHasGoneMayChange() {
        due(busy(), 4, "news", 0, 9);
    }

    // ---- 7: street

    void p7_streetIs0To5() {
        HeartHours x = new HeartHours();
        due(x, 0, "street", 0, 0, 4);
        due(x, 0, "street", 5, 0, 6);
        due(x, 4, "streetOf", 0, 0);
        due(x, 6, "streetOf", 5, 0);
        for (int what = 0; what < 2; what++) {
            refused(BAD, "street", -1, what, 0);
            refused(BAD, "street", 6, what, 0);
            refused(BAD, "street", LOWEST, what, 0);
            refused(BAD, "street", HIGHEST, what, 0);
        }
    }

    void p7_whatIs0Or1() {
        refused(BAD, "street", 0, -1, 0);
        refused(BAD, "street", 0, 2, 0);
        refused(BAD, "street", 0, LOWEST, 0);
        refused(BAD, "street", 0, HIGHEST, 0);
    }

    void p7_itShifts0To9() {
        HeartHours x = new HeartHours();
        due(x, 0, "street", 2, 0, 9);
        due(x, 9, "street", 2, 0, 0);
        due(x, 0, "street", 2, 0, 0);
        refused(BAD, "street", 2, 0, -1);
        refused(BAD, "street", 2, 0, 10);
        refused(BAD, "street", 2, 0, LOWEST);
        refused(BAD, "street", 2, 0, HIGHEST);
    }

    void p7_itBears0To14() {
        HeartHours x = new HeartHours();
        due(x, 3, "street", 2, 1, 14);
        due(x, 14, "street", 2, 1, 0);
        due(x, 0, "street", 2, 1, 0);
        refused(BAD, "street", 2, 1, -1);
        refused(BAD, "street", 2, 1, 15);
        refused(BAD, "street", 2, 1, LOWEST);
        refused(BAD, "street", 2, 1, HIGHEST);
    }

    void p7_nothingElseChanges() {
        HeartHours x = busy();
        int shift = x.street(3, 0, 9);
        int bear = x.street(3, 1, 9);
        due(x, 9, "streetOf", 3, 0);
        x.street(3, 0, shift);
        x.street(3, 1, bear);
        alike("a change there and back", x, busy());
    }

    // ---- 8: streetOf

    void p8_streetIs0To5() {
        still(0, "streetOf", 0, 0);
        still(5, "streetOf", 4, 0);
        still(3, "streetOf", 5, 1);
        for (int what = 0; what < 2; what++) {
            still(BAD, "streetOf", -1, what);
            still(BAD, "streetOf", 6, what);
            still(BAD, "streetOf", LOWEST, what);
            still(BAD, "streetOf", HIGHEST, what);
        }
    }

    void p8_whatIs0Or1() {
        still(0, "streetOf", 0, 0);
        still(6, "streetOf", 0, 1);
        still(BAD, "streetOf", 0, -1);
        still(BAD, "streetOf", 0, 2);
        still(BAD, "streetOf", 0, LOWEST);
        still(BAD, "streetOf", 0, HIGHEST);
    }

    // ---- 9: heart

    void p9_whatIs0Or1() {
        refused(BAD, "heart", -1, 0);
        refused(BAD, "heart", 2, 0);
        refused(BAD, "heart", LOWEST, 0);
        refused(BAD, "heart", HIGHEST, 0);
    }

    void p9_moodIs0To9() {
        HeartHours x = new HeartHours();
        due(x, 5, "heart", 0, 0);
        due(x, 0, "heart", 0, 9);
        due(x, 9, "state", 7);
        due(x, 0, "state", 8);
        refused(BAD, "heart", 0, -1);
        refused(BAD, "heart", 0, 10);
        refused(BAD, "heart", 0, LOWEST);
        refused(BAD, "heart", 0, HIGHEST);
    }

    void p9_handsAre0To99() {
        HeartHours x = new HeartHours();
        due(x, 0, "heart", 1, 99);
        due(x, 99, "state", 8);
        due(x, 99, "heart", 1, 0);
        due(x, 0, "state", 8);
        due(x, 5, "state", 7);
        refused(BAD, "heart", 1, -1);
        refused(BAD, "heart", 1, 100);
        refused(BAD, "heart", 1, LOWEST);
        refused(BAD, "heart", 1, HIGHEST);
    }

    void p9_nothingElseChanges() {
        HeartHours x = busy();
        x.heart(0, x.heart(0, 0));
        x.heart(1, x.heart(1, 99));
        due(x, 4, "state", 8);
        alike("a change there and back", x, busy());
    }

    // ---- 10: ends

    void p10_endIs1To16() {
        HeartHours x = new HeartHours();
        due(x, 12, "ends", 1);
        due(x, 1, "ends", 16);
        due(x, 16, "ends", 16);
        due(x, 16, "state", 1);
        still(HeartHours::new, BAD, "ends", 0);
        still(HeartHours::new, BAD, "ends", 17);
        still(HeartHours::new, BAD, "ends", -1);
        still(HeartHours::new, BAD, "ends", LOWEST);
        still(HeartHours::new, BAD, "ends", HIGHEST);
    }

    void p10_itIsNotBelowHour() {
        refused(STATE, "ends", 1);
        HeartHours x = busy();
        due(x, 9, "ends", 2);
        due(x, 2, "state", 1);
    }

    void p10_endAtHourMakesItOver() {
        HeartHours x = busy();
        x.ends(2);
        due(x, 1, "state", 3);
        due(x, STATE, "hour");
        due(x, 2, "ends", 3);
        due(x, 0, "state", 3);
    }

    void p10_badIsNamedAheadOfState() {
        refused(BAD, "ends", 0);
        refused(BAD, "ends", LOWEST);
    }

    void p10_behindTheLastHourOnly16IsLeft() {
        HeartHours x = quiet(4);
        x.ends(16);
        after(x, 16);
        due(x, STATE, "ends", 15);
        due(x, STATE, "ends", 1);
        due(x, BAD, "ends", 17);
        due(x, 16, "ends", 16);
        due(x, 1, "state", 3);
    }

    // ---- 11: anew

    void p11_itAnswersWhatHourWas() {
        due(new HeartHours(), 0, "anew");
        due(busy(), 2, "anew");
        HeartHours x = quiet(4);
        x.ends(16);
        due(after(x, 16), 16, "anew");
        due(x, 0, "anew");
    }

    void p11_itBeginsAgain() {
        HeartHours x = busy();
        due(x, 9, "state", 2);
        x.heart(0, 0);
        x.heart(1, 99);
        x.anew();
        due(x, 0, "state", 0);
        due(x, 0, "state", 2);
        due(x, 5, "state", 7);
        due(x, 0, "state", 8);
    }

    void p11_allGuildsWaitAndNoneIsDone() {
        HeartHours x = six();
        for (int k = 0; k < 6; k++) {
            x.change(k, 4, 0);
            x.change(k, 5, 1);
        }
        x.anew();
        due(x, 63, "state", 4);
        due(x, 0, "state", 5);
        HeartHours y = new HeartHours();
        y.anew();
        due(y, 0, "state", 4);
    }

    void p11_allElseStays() {
        HeartHours x = busy();
        x.anew();
        HeartHours y = busy();
        y.change(0, 5, 0);
        for (int what = 0; what <= 6; what++) due(x, y.many(what), "many", what);
        due(x, 9, "state", 1);
        due(x, 7, "seed", 7);
        for (int f = 0; f < 6; f++) for (int what = 0; what < 2; what++) due(x, y.streetOf(f, what), "streetOf", f, what);
        for (int h = 0; h < 16; h++) due(x, y.news(h, 4), "news", h, 4);
        for (int k = 0; k < 5; k++) for (int what = 0; what < 4; what++) due(x, y.guildOf(k, what), "guildOf", k, what);
        for (int k = 0; k < 3; k++) due(x, y.row(k, 0), "row", k, 0);
    }

    void p11_itIsNoMoreOver() {
        HeartHours x = over();
        due(x, 1, "anew");
        due(x, 0, "state", 3);
        due(x, 1, "state", 1);
    }

    // ---- 12: state

    void p12_whatIs0To8() {
        still(2, "state", 0);
        still(4, "state", 8);
        still(BAD, "state", -1);
        still(BAD, "state", 9);
        still(BAD, "state", LOWEST);
        still(BAD, "state", HIGHEST);
    }

    void p12_itIsOverFromEndOn() {
        HeartHours x = quiet(4);
        x.ends(2);
        due(x, 0, "state", 3);
        x.hour();
        due(x, 0, "state", 3);
        x.hour();
        due(x, 1, "state", 3);
        due(x, 2, "state", 0);
    }

    void p12_newsAre0BehindHour15() {
        HeartHours x = new HeartHours();
        x.ends(16);
        x.news(15, 11);
        after(x, 15);
        due(x, 11, "state", 6);
        x.hour();
        due(x, 16, "state", 0);
        due(x, 0, "state", 6);
    }

    void p12_newsOfHourAlsoWhenItIsOver() {
        HeartHours x = over();
        x.news(1, 13);
        due(x, 13, "state", 6);
    }

    void p12_setsAreEmptyOrFull() {
        HeartHours x = six();
        due(x, 63, "state", 4);
        due(x, 0, "state", 5);
        for (int k = 0; k < 6; k++) {
            x.change(k, 4, 0);
            x.change(k, 5, 1);
        }
        due(x, 0, "state", 4);
        due(x, 63, "state", 5);
    }

    void p12_scoreIsWhatHoursWereWorth() {
        HeartHours x = two();
        x.hour();
        due(x, 15, "state", 2);
        x.hour();
        due(x, 27, "state", 2);
        x.hour();
        due(x, 27, "state", 2);
    }
}
