/** The edges of promises 29 to 37: the game, reports and strangers, hours by lot. */
public final class GameEdgeTest extends Edge {
    public static void main(String[] args) throws Exception {
        new GameEdgeTest().run(29, 37);
    }

    // ---- 29: game

    void p29_nIs1To4() {
        still(() -> dueAt(0), 15, "game", 1);
        still(() -> dueAt(0), 15, "game", 4);
        still(BAD, "game", 0);
        still(BAD, "game", 5);
        still(BAD, "game", -1);
        still(BAD, "game", LOWEST);
        still(BAD, "game", HIGHEST);
        still(Edge::over, BAD, "game", 0);
        still(Edge::over, BAD, "game", 5);
    }

    void p29_whenItIsOverItIsWorth0() {
        still(Edge::over, 0, "game", 1);
        still(Edge::over, 0, "game", 4);
    }

    void p29_withoutGuildsItIsWorth0() {
        still(HeartHours::new, 0, "game", 1);
        still(HeartHours::new, 0, "game", 4);
    }

    void p29_theFirstOneWantsMostAndTheOtherOneLeast() {
        still(Edge::two, 15, "game", 1);
        still(Edge::two, 15, "game", 2);
        // in time in HOUR 1 alone, which is the other one's; told too early by the first it is lost as well
        still(() -> dueAt(4), 0, "game", 2);
        still(() -> dueAt(4), 0, "game", 4);
        // in time in HOUR 2, but the other one tells it in HOUR 1, too early
        still(() -> dueAt(8), 0, "game", 3);
    }

    void p29_theThirdHourIsTheFirstOnesAgain() {
        HeartHours x = two();
        x.street(0, 1, 4);
        // the book in HOUR 2: 4 late, 3 and 5
        due(x, 15, "game", 2);
        due(x, 15 + 8, "game", 3);
        due(x, 15 + 8, "game", 4);
    }

    void p29_theFourthHourIsTheOtherOnesAgain() {
        // it waits till HOUR 3 (a rule holds it): there the other one lets it be
        HeartHours x = lone(1, 12, 0);
        tell(x, "baker if hour<3 wait;");
        due(x, 0, "game", 4);
        x.hour();
        due(x, 15, "game", 3);
        due(x, 0, "game", 2);
    }

    void p29_theOtherOneMayTellOneToSpoilIt() {
        // worth 7 in HOUR 2 at least, if it may wait; in HOUR 1 it leaves, worth 1
        HeartHours x = lone(1, 8, 0);
        tell(x, "baker if hour=0 wait; baker if hour=1 leave;");
        due(x, 1, "game", 3);
    }

    void p29_tillItIsOver() {
        HeartHours x = two();
        x.street(0, 1, 4);
        x.ends(2);
        due(x, 15, "game", 4);
        x.ends(3);
        due(x, 23, "game", 4);
    }

    // ---- 30: play

    void p30_nIs1To4() {
        still(() -> dueAt(0), 1, "play", 1);
        still(() -> dueAt(0), 1, "play", 4);
        still(BAD, "play", 0);
        still(BAD, "play", 5);
        still(BAD, "play", -1);
        still(BAD, "play", LOWEST);
        still(BAD, "play", HIGHEST);
    }

    void p30_noneWhenItIsOver() {
        still(Edge::over, NONE, "play", 1);
        still(Edge::over, NONE, "play", 4);
    }

    void p30_badIsNamedAheadOfNone() {
        still(Edge::over, BAD, "play", 0);
        still(Edge::over, BAD, "play", 5);
    }

    void p30_theLeastActOfSeveral() {
        still(HeartHours::new, 0, "play", 4);
        still(Edge::six, 1, "play", 1);
        still(() -> dueAt(8), 0, "play", 3);
        still(() -> dueAt(4), 0, "play", 4);
    }

    void p30_theGreatestAct() {
        HeartHours x = six();
        for (int k = 0; k < 5; k++) x.change(k, 1, 60);
        due(x, 6, "play", 1);
        due(x, 6, "play", 2);
    }

    void p30_inTheLastHour() {
        HeartHours x = two();
        x.ends(1);
        due(x, 1, "play", 4);
    }

    // ---- 31: report

    void p31_hoursAre0To15() {
        due(new HeartHours(), 0, "report", 0, 0, 0, 99);
        due(new HeartHours(), 0, "report", 15, 0, 0, 99);
        refused(BAD, "report", -1, 0, 0, 99);
        refused(BAD, "report", 16, 0, 0, 99);
        refused(BAD, "report", LOWEST, 0, 0, 99);
        refused(BAD, "report", HIGHEST, 0, 0, 99);
    }

    void p31_askedIs0Or1() {
        due(new HeartHours(), 0, "report", 3, 0, 5, 5);
        due(new HeartHours(), 0, "report", 3, 1, 5, 5);
        refused(BAD, "report", 3, -1, 5, 5);
        refused(BAD, "report", 3, 2, 5, 5);
        refused(BAD, "report", 3, LOWEST, 5, 5);
        refused(BAD, "report", 3, HIGHEST, 5, 5);
    }

    void p31_handsAre0To99() {
        due(new HeartHours(), 0, "report", 3, 0, 0, 0);
        due(new HeartHours(), 0, "report", 3, 0, 99, 99);
        refused(BAD, "report", 3, 0, -1, 5);
        refused(BAD, "report", 3, 0, 5, 100);
        refused(BAD, "report", 3, 0, 100, 100);
        refused(BAD, "report", 3, 0, -1, -1);
        refused(BAD, "report", 3, 0, LOWEST, HIGHEST);
    }

    void p31_moodIs0To9() {
        due(new HeartHours(), 0, "report", 3, 1, 0, 0);
        due(new HeartHours(), 0, "report", 3, 1, 9, 9);
        refused(BAD, "report", 3, 1, -1, 5);
        refused(BAD, "report", 3, 1, 5, 10);
        refused(BAD, "report", 3, 1, 10, 10);
        refused(BAD, "report", 3, 1, -1, -1);
        refused(BAD, "report", 3, 1, LOWEST, HIGHEST);
    }

    void p31_mostIsNotBelowLeast() {
        due(new HeartHours(), 0, "report", 3, 0, 5, 5);
        due(new HeartHours(), 0, "report", 3, 0, 5, 6);
        refused(BAD, "report", 3, 0, 5, 4);
        refused(BAD, "report", 3, 1, 1, 0);
        refused(BAD, "report", 3, 0, HIGHEST, LOWEST);
    }

    private static HeartHours sixReports() {
        HeartHours x = busy();
        for (int r = 2; r < 6; r++) x.report(r, 0, 0, 99);
        return x;
    }

    void p31_thereAreSixAtMost() {
        HeartHours x = new HeartHours();
        for (int r = 0; r < 6; r++) due(x, r, "report", 15 - r, 0, 0, 99);
        due(x, 6, "many", 3);
        still(GameEdgeTest::sixReports, FULL, "report", 0, 1, 0, 0);
    }

    void p31_badIsNamedAheadOfFull() {
        still(GameEdgeTest::sixReports, BAD, "report", 16, 0, 0, 0);
        still(GameEdgeTest::sixReports, BAD, "report", 0, 2, 0, 0);
        still(GameEdgeTest::sixReports, BAD, "report", 0, 0, 1, 0);
        still(GameEdgeTest::sixReports, BAD, "report", 0, 1, 0, 10);
    }

    // ---- 32: forget

    void p32_itAnswersHowManyThereWere() {
        due(new HeartHours(), 0, "forget");
        due(busy(), 2, "forget");
        HeartHours x = sixReports();
        due(x, 6, "forget");
        due(x, 0, "forget");
        due(x, 0, "many", 3);
    }

    void p32_thereIsRoomAgain() {
        HeartHours x = sixReports();
        x.forget();
        due(x, 500, "cause", 0);
        for (int r = 0; r < 6; r++) due(x, r, "report", 0, 1, 3, 3);
        due(x, 50, "cause", 0);
    }

    // ---- 33: cause

    void p33_whatIs0To3() {
        still(() -> reported(0, 1, 7, 7), 50, "cause", 0);
        still(() -> reported(0, 1, 7, 7), 7, "cause", 3);
        still(BAD, "cause", -1);
        still(BAD, "cause", 4);
        still(BAD, "cause", LOWEST);
        still(BAD, "cause", HIGHEST);
    }

    /** Quiet (NEWS none); REPORTS as told, four numbers each. */
    private static HeartHours reported(int... numbers) {
        HeartHours x = quiet(5);
        for (int i = 0; i + 3 < numbers.length; i += 4) x.report(numbers[i], numbers[i + 1], numbers[i + 2], numbers[i + 3]);
        return x;
    }

    void p33_withoutReportsAllFit() {
        still(HeartHours::new, 500, "cause", 0);
        still(HeartHours::new, 1, "cause", 1);
        still(HeartHours::new, 0, "cause", 2);
        still(HeartHours::new, 0, "cause", 3);
    }

    void p33_ifNoneFitsThereIsNoneToTell() {
        still(() -> reported(0, 0, 1, 99), 0, "cause", 0);
        for (int what = 1; what <= 3; what++) still(() -> reported(0, 0, 1, 99), NONE, "cause", what);
        still(() -> reported(0, 0, 1, 99), BAD, "cause", 4);
        still(() -> reported(0, 0, 1, 99), BAD, "cause", -1);
    }

    void p33_behind0HoursHandsAre0AndMoodAsAtFirst() {
        still(() -> reported(0, 0, 0, 0), 500, "cause", 0);
        still(() -> reported(0, 1, 0, 0), 50, "cause", 0);
        still(() -> reported(0, 1, 9, 9), 9, "cause", 3);
    }

    void p33_leastAndMostAreWithin() {
        still(() -> reported(0, 1, 3, 5), 150, "cause", 0);
        still(() -> reported(0, 1, 3, 5), 3, "cause", 3);
        still(() -> reported(0, 1, 3, 5, 0, 1, 5, 9), 5, "cause", 3);
        still(() -> reported(0, 1, 3, 5, 0, 1, 5, 9), 50, "cause", 0);
        still(() -> reported(0, 1, 3, 5, 0, 1, 6, 9), 0, "cause", 0);
        still(() -> reported(0, 1, 0, 9), 500, "cause", 0);
    }

    void p33_theLeastKindThenGiftThenMood() {
        // bakers with gift 9 (6 more) from 0, 1, 2, with gift 6, 7, 8 (4 more) from 2; a doctor with gift 9 from 2
        still(() -> reported(0, 1, 0, 2, 1, 1, 6, 8), 7, "cause", 0);
        still(() -> reported(0, 1, 0, 2, 1, 1, 6, 8), 1, "cause", 1);
        still(() -> reported(0, 1, 0, 2, 1, 1, 6, 8), 6, "cause", 2);
        still(() -> reported(0, 1, 0, 2, 1, 1, 6, 8), 2, "cause", 3);
    }

    void p33_theGreatestKindAndGift() {
        // 1 in HOURS 0 and 2, 0 in HOUR 4: a candle with gift 0 to 2
        still(() -> reported(0, 1, 0, 0, 4, 1, 2, 2, 5, 1, 2, 2), 3, "cause", 0);
        still(() -> reported(0, 1, 0, 0, 4, 1, 2, 2, 5, 1, 2, 2), 5, "cause", 1);
        still(() -> reported(0, 1, 0, 0, 4, 1, 2, 2, 5, 1, 2, 2), 0, "cause", 2);
    }

    void p33_itComesInEvenHoursAlone() {
        // 3 less in HOUR 0, none in HOUR 1, 3 less in HOUR 2: a lawyer with gift 0 to 2
        still(() -> reported(0, 1, 9, 9, 1, 1, 6, 6, 2, 1, 6, 6, 3, 1, 3, 3), 3, "cause", 0);
        still(() -> reported(0, 1, 9, 9, 1, 1, 6, 6, 2, 1, 3, 3), 0, "cause", 0);
    }

    void p33_itComesBehindTheNews() {
        // better by 3, held at 9, then 3 less; the other way round it would be 8
        HeartHours x = reported(0, 1, 8, 8, 1, 1, 6, 6);
        x.news(0, 12);
        due(x, 3, "cause", 0);
        due(x, 2, "cause", 1);
    }

    void p33_behind15HoursTheNewsOfHour14CountAndOf15Not() {
        HeartHours x = reported(0, 1, 5, 5, 15, 1, 8, 8);
        due(x, 0, "cause", 0);
        x.news(15, 12);
        due(x, 0, "cause", 0);
        // 3 more from 5: those that cheer by 0, bakers with gift 0, 1, 2 and a lawyer with gift 9
        x.news(14, 12);
        due(x, 4, "cause", 0);
        due(x, 1, "cause", 1);
    }

    void p33_reportsGoOnBeyondEnd() {
        HeartHours x = reported(15, 0, 30, 90);
        x.ends(1);
        due(x, 500, "cause", 0);
        due(over(), 500, "cause", 0);
    }

    void p33_howItIsNowDoesNotCount() {
        HeartHours x = reported(0, 1, 3, 3, 1, 1, 9, 9, 1, 0, 2, 2);
        due(x, 1, "cause", 0);
        x.hour();
        x.heart(0, 0);
        x.heart(1, 77);
        x.guild(1, 0, 9, 0);
        due(x, 1, "cause", 0);
        due(x, 9, "cause", 2);
    }

    void p33_noRuleTellsAStranger() {
        HeartHours x = reported(0, 1, 3, 3, 1, 1, 9, 9);
        tell(x, "guild wait;");
        due(x, 1, "cause", 0);
    }

    void p33_handsByMoodBehindTheCaller() {
        // MOOD 0 stays 0: HANDS 6; a baker's 6 makes HANDS 3
        still(() -> reported(0, 1, 0, 0, 1, 0, 3, 3), 1, "cause", 0);
        still(() -> reported(0, 1, 0, 0, 1, 0, 3, 3), 9, "cause", 2);
        still(() -> reported(1, 0, 7, 99), 0, "cause", 0);
        still(() -> reported(1, 0, 0, 1), 0, "cause", 0);
        still(() -> reported(1, 0, 2, 6), 500, "cause", 0);
    }

    // ---- 34: liar

    void p34_noneIfSomeFit() {
        still(HeartHours::new, NONE, "liar");
        still(() -> reported(0, 1, 3, 3), NONE, "liar");
        still(() -> reported(0, 0, 0, 0, 0, 1, 3, 3), NONE, "liar");
        // a candle alone fits, the greatest kind
        still(() -> reported(0, 1, 0, 0, 4, 1, 2, 2, 5, 1, 2, 2), NONE, "liar");
        // the greatest mood alone fits
        still(() -> reported(0, 1, 9, 9), NONE, "liar");
    }

    void p34_oneThatCanNotBe() {
        still(() -> reported(0, 0, 1, 1), 0, "liar");
        still(() -> reported(0, 1, 3, 3, 0, 0, 1, 1), 1, "liar");
    }

    void p34_theLeastOfSeveral() {
        still(() -> reported(0, 1, 3, 3, 0, 1, 4, 4), 0, "liar");
        still(() -> reported(0, 1, 4, 4, 0, 1, 3, 3), 0, "liar");
        still(() -> reported(0, 1, 0, 9, 0, 1, 3, 3, 0, 1, 4, 4), 1, "liar");
    }

    void p34_theLastOfSix() {
        still(() -> reported(0, 1, 3, 3, 0, 1, 3, 3, 0, 1, 3, 3, 0, 1, 3, 3, 0, 1, 3, 3, 0, 1, 4, 4), 5, "liar");
        still(() -> reported(0, 1, 4, 4, 0, 1, 3, 3, 0, 1, 3, 3, 0, 1, 3, 3, 0, 1, 3, 3, 0, 1, 3, 3), 0, "liar");
    }

    void p34_noneIfNoOneAloneIsWrong() {
        still(() -> reported(0, 1, 3, 3, 0, 1, 3, 3, 0, 1, 4, 4, 0, 1, 4, 4), NONE, "liar");
        still(() -> reported(0, 0, 1, 1, 0, 0, 2, 2), NONE, "liar");
    }

    // ---- 35: seed

    void p35_anyNumberIsTaken() {
        HeartHours x = new HeartHours();
        due(x, 1, "seed", 0);
        due(x, 0, "seed", -1);
        due(x, -1, "seed", LOWEST);
        due(x, LOWEST, "seed", HIGHEST);
        due(x, HIGHEST, "seed", HIGHEST);
        due(x, HIGHEST, "seed", -4);
        due(x, -4, "seed", 1);
    }

    void p35_nothingElseChanges() {
        HeartHours x = busy();
        x.seed(-3);
        due(x, -3, "seed", 7);
        alike("a seed there and back", x, busy());
    }

    // ---- 36: lot

    private static int next(int z) {
        return z * 1103515245 + 12345;
    }

    /** The least seed from 1 on by which LOT tells that ACT among so many GUILDS, z being below 0 then or not. */
    private static int seedFor(int act, int guilds, boolean below0) {
        int seed = 1;
        while ((next(seed) >>> 16) % (guilds + 1) != act || next(seed) < 0 != below0) seed++;
        return seed;
    }

    void p36_noneGoesByWhenItIsOver() {
        still(Edge::over, STATE, "lot");
    }

    void p36_zWraps() {
        HeartHours x = busy();
        x.seed(2);
        x.lot();
        // 2207030490 and 12345 more, less 2 to the 32nd
        due(x, -2087924461, "seed", HIGHEST);
        x.lot();
        due(x, next(HIGHEST), "seed", LOWEST);
        x.lot();
        due(x, next(LOWEST), "seed", 1);
        x.lot();
        due(x, 1103527590, "seed", 1);
    }

    void p36_eachActOfSeven() {
        for (int act = 0; act <= 6; act++) {
            for (int sign = 0; sign < 2; sign++) {
                HeartHours x = six();
                x.seed(seedFor(act, 6, sign == 1));
                due(x, act == 0 ? 0 : 15, "lot");
                due(x, act == 0 ? 0 : 1 << act - 1, "state", 5);
                due(x, act == 0 ? 0 : 15, "state", 2);
                due(x, 1, "state", 0);
            }
        }
    }

    void p36_withoutGuildsNoneIsTold() {
        HeartHours x = quiet(4);
        due(x, 0, "lot");
        due(x, 1, "state", 0);
        due(x, 1103527590, "seed", 1);
    }

    void p36_oneThatIsTooLateComesForNothing() {
        HeartHours x = lone(1, 60, 9);
        x.seed(seedFor(1, 1, false));
        due(x, 0, "lot");
        due(x, 0, "state", 4);
        due(x, 0, "state", 5);
        due(x, 9, "state", 7);
        due(x, 2, "state", 8);
    }

    void p36_theLastHourGoesBy() {
        HeartHours x = quiet(4);
        x.ends(16);
        for (int h = 0; h < 16; h++) due(x, 0, "lot");
        due(x, STATE, "lot");
    }

    // ---- 37: times

    void p37_nIs1To40() {
        still(1, "times", 1, 0);
        still(40, "times", 40, 0);
        still(BAD, "times", 0, 0);
        still(BAD, "times", 41, 0);
        still(BAD, "times", -1, 0);
        still(BAD, "times", LOWEST, 0);
        still(BAD, "times", HIGHEST, 0);
    }

    void p37_vIs0To999() {
        still(5, "times", 5, 0);
        still(0, "times", 5, 999);
        still(BAD, "times", 5, -1);
        still(BAD, "times", 5, 1000);
        still(BAD, "times", 5, LOWEST);
        still(BAD, "times", 5, HIGHEST);
    }

    /** One HOUR, one baker: it is worth 15 if LOT tells it, else 0. */
    private static HeartHours oneHour(int seed) {
        HeartHours x = lone(1, 0, 0);
        x.ends(1);
        x.seed(seed);
        return x;
    }

    void p37_asMuchIsEnough() {
        int told = seedFor(1, 1, false);
        still(() -> oneHour(told), 1, "times", 1, 15);
        still(() -> oneHour(told), 0, "times", 1, 16);
        still(() -> oneHour(told), 1, "times", 1, 1);
        still(() -> oneHour(seedFor(0, 1, false)), 0, "times", 1, 1);
    }

    void p37_zGoesOnFromOneToTheNext() {
        int z = 77, come = 0;
        for (int i = 0; i < 40; i++) {
            z = next(z);
            come += (z >>> 16) % 2;
            int many = i + 1, want = come;
            due(oneHour(77), want, "times", many, 15);
        }
    }

    void p37_eachIsFromHowItIsNow() {
        // were the baker gone behind the first time, no later one would be worth 15
        int seed = 1;
        while ((next(seed) >>> 16) % 2 != 1 || (next(next(seed)) >>> 16) % 2 != 1) seed++;
        due(oneHour(seed), 2, "times", 2, 15);
    }

    void p37_when0HoursAreLeft() {
        still(Edge::over, 40, "times", 40, 0);
        still(Edge::over, 0, "times", 40, 1);
        still(Edge::over, BAD, "times", 41, 1);
    }

    void p37_scoreSoFarDoesNotCount() {
        HeartHours x = two();
        x.hour();
        x.ends(1);
        due(x, 0, "times", 40, 15);
        due(x, 15, "state", 2);
    }
}
