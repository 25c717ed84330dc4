/** The edges of promises 24 to 28: plans, the best ones, charters and bars. */
public final class PlansEdgeTest extends Edge {
    public static void main(String[] args) throws Exception {
        new PlansEdgeTest().run(24, 28);
    }

    /** A lawyer that is never in time makes MOOD 1, HANDS go by 6: only so is the baker, due at 6, in time in HOUR 1. */
    private static HeartHours helped() {
        HeartHours x = lone(2, 60, 0);
        x.guild(1, 6, 0, 1);
        x.street(1, 1, 0);
        return x;
    }

    /** Six bakers that don't WAIT. */
    private static HeartHours sixGone() {
        HeartHours x = six();
        for (int k = 0; k < 6; k++) x.change(k, 4, 0);
        return x;
    }

    private void nIs0To4(String name, long... more) {
        int[] bad = {-1, 5, LOWEST, HIGHEST};
        for (int n : bad) {
            long[] numbers = new long[1 + more.length];
            numbers[0] = n;
            System.arraycopy(more, 0, numbers, 1, more.length);
            still(BAD, name, numbers);
            still(Edge::over, BAD, name, numbers);
        }
    }

    // ---- 24: best

    void p24_nIs0To4() {
        still(() -> dueAt(12), 0, "best", 0);
        still(() -> dueAt(12), 0, "best", 3);
        still(() -> dueAt(12), 15, "best", 4);
        still(() -> dueAt(16), 0, "best", 4);
        nIs0To4("best");
    }

    void p24_fewerIfItIsOver() {
        HeartHours x = dueAt(12);
        x.ends(4);
        due(x, 15, "best", 4);
        x.ends(3);
        due(x, 0, "best", 4);
        still(Edge::over, 0, "best", 4);
        still(Edge::over, 0, "best", 0);
    }

    void p24_withoutGuildsItIsWorth0() {
        still(HeartHours::new, 0, "best", 0);
        still(HeartHours::new, 0, "best", 4);
    }

    void p24_aPlanMayTellOneThatIsTooLate() {
        still(PlansEdgeTest::helped, 0, "best", 1);
        still(PlansEdgeTest::helped, 15, "best", 2);
    }

    void p24_allOfSixMayBeTold() {
        HeartHours x = six();
        for (int k = 0; k < 6; k++) x.street(k, 1, 14);
        // 0, 4, 8, 12 late
        due(x, 15, "best", 1);
        due(x, 15 + 11 + 7 + 6, "best", 4);
    }

    void p24_scoreSoFarDoesNotCount() {
        HeartHours x = two();
        x.hour();
        due(x, 12, "best", 1);
        due(x, 15, "state", 2);
    }

    void p24_oneThatLeavesIsWorth1() {
        HeartHours x = dueAt(60);
        tell(x, "baker leave;");
        due(x, 1, "best", 1);
        due(x, 1, "best", 4);
        tell(x, "baker wait;");
        due(x, 0, "best", 4);
    }

    // ---- 25: ith

    void p25_nIs0To4() {
        still(() -> dueAt(12), 1, "ith", 4, 3);
        still(() -> dueAt(12), 0, "ith", 1, 0);
        nIs0To4("ith", 0);
    }

    void p25_iIs0To3() {
        still(() -> dueAt(0), 1, "ith", 4, 0);
        still(() -> dueAt(12), 1, "ith", 4, 3);
        still(BAD, "ith", 4, -1);
        still(BAD, "ith", 4, 4);
        still(BAD, "ith", 4, LOWEST);
        still(BAD, "ith", 4, HIGHEST);
    }

    void p25_noneIfItHasNotSoMany() {
        still(NONE, "ith", 0, 0);
        still(NONE, "ith", 1, 1);
        still(NONE, "ith", 2, 2);
        still(NONE, "ith", 3, 3);
        for (int n = 1; n <= 4; n++) still(() -> dueAt(60), 0, "ith", n, n - 1);
    }

    void p25_noneIfItIsOverAhead() {
        still(Edge::over, NONE, "ith", 4, 0);
        HeartHours x = dueAt(4);
        x.ends(2);
        due(x, 1, "ith", 4, 1);
        due(x, NONE, "ith", 4, 2);
        due(x, NONE, "ith", 4, 3);
    }

    void p25_badIsNamedAheadOfNone() {
        still(Edge::over, BAD, "ith", 4, 4);
        still(Edge::over, BAD, "ith", 5, 0);
        still(BAD, "ith", 0, 4);
        still(BAD, "ith", 0, -1);
    }

    void p25_theFirstHasTheLesserActWhereTheyAreUnlikeFirst() {
        int[] acts = {0, 0, 1, 0};
        for (int i = 0; i < 4; i++) still(() -> dueAt(8), acts[i], "ith", 4, i);
        still(Edge::six, 1, "ith", 1, 0);
        still(PlansEdgeTest::sixGone, 0, "ith", 4, 3);
        still(PlansEdgeTest::helped, 1, "ith", 2, 0);
        still(PlansEdgeTest::helped, 2, "ith", 2, 1);
    }

    void p25_theGreatestActIs1MoreThanTheLastGuild() {
        HeartHours x = six();
        for (int k = 0; k < 5; k++) x.change(k, 4, 0);
        due(x, 6, "ith", 1, 0);
    }

    // ---- 26: ways

    void p26_nIs0To4() {
        still(() -> dueAt(0), 1, "ways", 0);
        still(() -> dueAt(0), 1, "ways", 1);
        still(() -> dueAt(0), 8, "ways", 4);
        nIs0To4("ways");
    }

    void p26_theEmptyPlanIsOne() {
        still(HeartHours::new, 1, "ways", 0);
        still(HeartHours::new, 1, "ways", 4);
        still(Edge::over, 1, "ways", 4);
    }

    void p26_allOfThemMayBeBest() {
        still(PlansEdgeTest::sixGone, 7, "ways", 1);
        still(PlansEdgeTest::sixGone, 49, "ways", 2);
        still(PlansEdgeTest::sixGone, 343, "ways", 3);
        still(PlansEdgeTest::sixGone, 2401, "ways", 4);
    }

    void p26_fewerHoursMakeFewer() {
        HeartHours x = sixGone();
        x.ends(2);
        due(x, 49, "ways", 4);
    }

    void p26_theSameEndByOtherActsCounts() {
        // who comes first of six doesn't matter
        still(Edge::six, 6, "ways", 1);
        // the baker in HOUR 0, the book in HOUR 1, then any of three acts
        still(Edge::two, 3, "ways", 3);
        still(PlansEdgeTest::helped, 1, "ways", 2);
    }

    void p26_tellingOneThatDoesNotWaitIsAWayAsWell() {
        HeartHours x = dueAt(12);
        x.guild(1, 0, 0, 0);
        x.change(1, 4, 0);
        // in HOURS 0, 1 and 2 none or the second is told, in HOUR 3 the first
        due(x, 8, "ways", 4);
        due(x, 27, "ways", 3);
    }

    void p26_tellingOneThatDoesNotWaitIsNoBetterWay() {
        HeartHours x = two();
        x.change(1, 4, 0);
        due(x, 1, "ways", 1);
        due(x, 3, "ways", 2);
    }

    // ---- 27: charter

    void p27_nIs0To4() {
        still(() -> dueAt(12), NONE, "charter", 3, 1);
        still(() -> dueAt(12), 1, "charter", 4, 1);
        nIs0To4("charter", 1);
    }

    void p27_theSetIsOfSuchAsThereAre() {
        still(Edge::two, BAD, "charter", 4, 4);
        still(Edge::two, BAD, "charter", 4, 5);
        still(Edge::two, 2, "charter", 4, 3);
        still(Edge::two, BAD, "charter", 4, -1);
        still(Edge::two, BAD, "charter", 4, LOWEST);
        still(Edge::two, BAD, "charter", 4, HIGHEST);
        still(HeartHours::new, 0, "charter", 4, 0);
        still(HeartHours::new, BAD, "charter", 4, 1);
        still(Edge::six, NONE, "charter", 4, 63);
        still(Edge::six, BAD, "charter", 4, 64);
    }

    void p27_theEmptySetNeedsNoAct() {
        still(0, "charter", 0, 0);
        still(0, "charter", 4, 0);
        still(Edge::over, 0, "charter", 4, 0);
    }

    void p27_thoseThatAreDoneNeedNoAct() {
        still(Edge::over, 0, "charter", 0, 1);
        still(Edge::over, 0, "charter", 4, 1);
        still(Edge::over, NONE, "charter", 4, 2);
        still(Edge::over, NONE, "charter", 4, 3);
        HeartHours x = sixGone();
        for (int k = 0; k < 6; k++) x.change(k, 5, 1);
        due(x, 0, "charter", 0, 63);
        x.change(5, 5, 0);
        due(x, NONE, "charter", 4, 63);
        due(x, 0, "charter", 4, 31);
    }

    void p27_fewestActsAreAtMostN() {
        HeartHours x = six();
        for (int k = 0; k < 6; k++) x.street(k, 1, 14);
        due(x, 1, "charter", 1, 32);
        due(x, NONE, "charter", 1, 48);
        due(x, 2, "charter", 2, 48);
        due(x, 4, "charter", 4, 15);
        due(x, NONE, "charter", 3, 15);
        due(x, NONE, "charter", 4, 31);
    }

    void p27_actsThatHelpCount() {
        still(PlansEdgeTest::helped, 2, "charter", 2, 2);
        still(PlansEdgeTest::helped, NONE, "charter", 1, 2);
        still(PlansEdgeTest::helped, NONE, "charter", 4, 1);
    }

    void p27_waitingIsNoAct() {
        still(() -> dueAt(12), 1, "charter", 4, 1);
    }

    void p27_fewerIfItIsOver() {
        HeartHours x = dueAt(12);
        x.ends(3);
        due(x, NONE, "charter", 4, 1);
        x.ends(4);
        due(x, 1, "charter", 4, 1);
    }

    void p27_badIsNamedAheadOfNone() {
        still(Edge::over, BAD, "charter", 5, 2);
        still(Edge::over, BAD, "charter", 4, 4);
    }

    // ---- 28: bars

    void p28_nIs0To4() {
        still(() -> dueAt(12), 0, "bars", 0, 1);
        still(() -> dueAt(12), 0, "bars", 3, 1);
        still(() -> dueAt(12), NONE, "bars", 4, 1);
        nIs0To4("bars", 1);
    }

    void p28_theSetIsOfSuchAsThereAre() {
        still(Edge::two, NONE, "bars", 2, 3);
        still(Edge::two, BAD, "bars", 2, 4);
        still(Edge::two, BAD, "bars", 2, -1);
        still(Edge::two, BAD, "bars", 2, LOWEST);
        still(Edge::two, BAD, "bars", 2, HIGHEST);
        still(HeartHours::new, BAD, "bars", 2, 1);
        still(Edge::six, NONE, "bars", 1, 63);
        still(Edge::six, BAD, "bars", 1, 64);
    }

    void p28_theEmptySetHasNoBar() {
        still(NONE, "bars", 0, 0);
        still(HeartHours::new, NONE, "bars", 4, 0);
        still(Edge::over, NONE, "bars", 4, 0);
    }

    void p28_theLeastOfThemIsTold() {
        still(PlansEdgeTest::sixGone, 0, "bars", 4, 63);
        still(PlansEdgeTest::sixGone, 5, "bars", 4, 32);
        still(PlansEdgeTest::sixGone, 3, "bars", 4, 56);
        still(Edge::two, 1, "bars", 1, 3);
        still(Edge::two, 0, "bars", 0, 3);
    }

    void p28_eachMayBeDoneBehindAPlanOfItsOwn() {
        // one HOUR is enough for each of six, though not for two of them
        still(Edge::six, NONE, "bars", 1, 63);
        still(Edge::six, NONE, "charter", 1, 3);
    }

    void p28_oneThatIsDoneIsNoBar() {
        still(Edge::over, NONE, "bars", 0, 1);
        still(Edge::over, 1, "bars", 4, 3);
        still(Edge::over, NONE, "bars", 4, 1);
    }

    void p28_badIsNamedAheadOfNone() {
        still(Edge::over, BAD, "bars", 5, 0);
        still(Edge::over, BAD, "bars", 4, 4);
    }

    void p28_oneByTheOthersHelpIsNoBar() {
        still(PlansEdgeTest::helped, NONE, "bars", 2, 2);
        still(PlansEdgeTest::helped, 1, "bars", 1, 2);
        still(PlansEdgeTest::helped, 0, "bars", 4, 3);
    }
}
