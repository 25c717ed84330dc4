/** The edges of promises 15 to 19: hours that go by, what THE REST is worth, and by which gift and due it is most. */
public final class HoursEdgeTest extends Edge {
    public static void main(String[] args) throws Exception {
        new HoursEdgeTest().run(15, 19);
    }

    // ---- 15: hour

    void p15_noneGoesByWhenItIsOver() {
        still(Edge::over, STATE, "hour");
    }

    void p15_theLastHourGoesBy() {
        HeartHours x = quiet(4);
        x.ends(16);
        for (int h = 0; h < 16; h++) due(x, 0, "hour");
        due(x, 16, "state", 0);
        due(x, STATE, "hour");
        due(x, 16, "state", 0);
        HeartHours y = lone(1, 0, 0);
        y.ends(1);
        due(y, 15, "hour");
        due(y, STATE, "hour");
    }

    void p15_anHourWithoutGuildsIsWorth0() {
        HeartHours x = new HeartHours();
        due(x, 0, "hour");
        due(x, 1, "state", 0);
        due(x, 0, "state", 2);
        due(x, 6, "state", 7);
        due(x, 3, "state", 8);
    }

    /** A baker without a gift, DUE so, HANDS and BEAR so: what the HOUR is WORTH, and whether it WAITS still. */
    private void baker(int worth, int waits, int itsDue, int hands, int bear) {
        HeartHours x = lone(1, itsDue, 0);
        x.heart(1, hands);
        x.street(0, 1, bear);
        due(x, worth, "hour");
        due(x, waits, "guildOf", 0, 4);
        due(x, 1 - waits, "guildOf", 0, 5);
        due(x, worth, "state", 2);
    }

    void p15_asLateAsItsStreetBearsIsInTime() {
        baker(12, 0, 3, 0, 3);
        baker(12, 0, 0, 3, 3);
        baker(15, 0, 7, 7, 0);
    }

    void p15_oneMoreLateIsNotTold() {
        baker(0, 1, 4, 0, 3);
        baker(0, 1, 0, 4, 3);
        baker(0, 1, 8, 7, 0);
        baker(0, 1, 6, 7, 0);
        baker(0, 1, 15, 0, 14);
    }

    void p15_nineLessLateIsNotBelow0() {
        baker(6 + 1, 0, 8, 0, 14);
        baker(6, 0, 9, 0, 14);
        baker(6, 0, 10, 0, 14);
        baker(6, 0, 14, 0, 14);
        baker(6, 0, 0, 14, 14);
    }

    void p15_shiftCountsInLate() {
        HeartHours x = lone(1, 51, 0);
        x.street(0, 0, 9);
        x.heart(1, 60);
        due(x, 15, "hour");
        HeartHours y = lone(1, 0, 0);
        y.street(0, 0, 4);
        due(y, 0, "hour");
    }

    void p15_theLeastGuildIsTold() {
        HeartHours x = six();
        due(x, 15, "hour");
        due(x, 1, "state", 5);
        due(x, 62, "state", 4);
    }

    void p15_theLastOfSixIsTold() {
        HeartHours x = six();
        for (int k = 0; k < 5; k++) x.change(k, 4, 0);
        due(x, 15, "hour");
        due(x, 32, "state", 5);
        due(x, 0, "state", 4);
        HeartHours y = six();
        for (int k = 0; k < 5; k++) y.change(k, 1, 60);
        due(y, 15, "hour");
        due(y, 31, "state", 4);
    }

    void p15_oneThatDoesNotWaitIsNotTold() {
        HeartHours x = lone(1, 0, 9);
        x.change(0, 4, 0);
        due(x, 0, "hour");
        due(x, 4, "state", 7);
        due(x, 0, "state", 5);
    }

    void p15_oneThatIsDoneAndWaitsIsToldAgain() {
        HeartHours x = lone(1, 0, 0);
        x.change(0, 5, 1);
        due(x, 15, "hour");
        due(x, 1, "state", 5);
        due(x, 0, "state", 4);
    }

    void p15_oneToldThatWaitsChangesNothingAndNoOtherIsTold() {
        HeartHours x = lone(1, 0, 9);
        x.guild(4, 0, 0, 0);
        tell(x, "baker wait;");
        due(x, 0, "hour");
        due(x, 3, "state", 4);
        due(x, 0, "state", 5);
        due(x, 4, "state", 7);
        due(x, 4, "state", 8);
    }

    void p15_oneThatLeavesIsWorth1() {
        HeartHours x = lone(1, 0, 9);
        tell(x, "baker leave;");
        due(x, 1, "hour");
        due(x, 0, "state", 4);
        due(x, 0, "state", 5);
        due(x, 4, "state", 7);
        due(x, 1, "state", 2);
    }

    /** MOOD behind an HOUR in which that one came. */
    private void moodBy(int kind, int gift, int before, int behind) {
        HeartHours x = lone(kind, 0, gift);
        x.heart(0, before);
        x.hour();
        due(x, behind, "state", 7);
    }

    void p15_cheersAreHeldAt9() {
        moodBy(1, 9, 2, 8);
        moodBy(1, 9, 3, 9);
        moodBy(1, 9, 4, 9);
        moodBy(1, 9, 9, 9);
    }

    void p15_cheersAreHeldAt0() {
        moodBy(2, 0, 4, 1);
        moodBy(2, 0, 3, 0);
        moodBy(2, 0, 2, 0);
        moodBy(2, 0, 0, 0);
    }

    /** HANDS behind an HOUR, from HANDS, by MOOD. */
    private void handsBy(int mood, int before, int behind) {
        HeartHours x = quiet(mood);
        x.heart(1, before);
        x.hour();
        due(x, behind, "state", 8);
    }

    void p15_handsGoBy6LessHalfOfMoodCut() {
        int[] by = {6, 6, 5, 5, 4, 4, 3, 3, 2, 2};
        for (int mood = 0; mood <= 9; mood++) handsBy(mood, 10, 10 + by[mood]);
    }

    void p15_handsAre99AtMost() {
        handsBy(0, 92, 98);
        handsBy(0, 93, 99);
        handsBy(0, 94, 99);
        handsBy(0, 99, 99);
        handsBy(9, 97, 99);
        handsBy(9, 98, 99);
    }

    void p15_newsComeAheadOfTheCaller() {
        // worse by 3 first (to 0), then 6 more; the other way round it would be 6
        HeartHours x = lone(1, 0, 9);
        x.heart(0, 2);
        x.news(0, 13);
        x.hour();
        due(x, 6, "state", 7);
    }

    void p15_rulesSeeMoodBehindTheNews() {
        HeartHours x = lone(1, 0, 0);
        x.news(0, 5);
        tell(x, "baker if mood=3 leave; baker wait;");
        due(x, 1, "hour");
    }

    void p15_rulesSeeTheHourThatGoesBy() {
        HeartHours x = lone(1, 4, 0);
        x.street(0, 1, 14);
        tell(x, "baker if hour=1 leave; baker wait;");
        due(x, 0, "hour");
        due(x, 1, "hour");
    }

    void p15_handsGoByMoodBehindTheCaller() {
        HeartHours x = lone(1, 0, 9);
        x.heart(0, 3);
        due(x, 15, "hour");
        due(x, 2, "state", 8);
    }

    // ---- 16: on

    void p16_nIs0To16() {
        HeartHours x = lone(1, 60, 0);
        x.ends(16);
        x.street(0, 1, 0);
        due(x, 0, "on", 0);
        due(x, 0, "on", 15);
        due(x, 15, "on", 16);
        still(BAD, "on", -1);
        still(BAD, "on", 17);
        still(BAD, "on", LOWEST);
        still(BAD, "on", HIGHEST);
    }

    void p16_fewerIfItIsOver() {
        HeartHours x = two();
        due(x, 27, "on", 2);
        x.ends(1);
        due(x, 15, "on", 2);
        due(x, 15, "on", 16);
        still(Edge::over, 0, "on", 16);
        still(Edge::over, BAD, "on", 17);
    }

    void p16_itChangesNothing() {
        still(Edge::two, 15, "on", 1);
        still(Edge::two, 27, "on", 16);
        still(0, "on", 0);
        HeartHours x = busy();
        int all = 0;
        for (int n = 0; n <= 7; n++) {
            due(busy(), all, "on", n);
            if (n < 7) all += x.hour();
        }
        due(busy(), all, "on", 16);
    }

    void p16_scoreSoFarDoesNotCount() {
        HeartHours x = two();
        x.hour();
        due(x, 12, "on", 16);
    }

    // ---- 17: when

    void p17_noSuchGuild() {
        still(BAD, "when", -1);
        still(BAD, "when", 5);
        still(BAD, "when", LOWEST);
        still(BAD, "when", HIGHEST);
        still(HeartHours::new, BAD, "when", 0);
        still(Edge::over, BAD, "when", 2);
    }

    private static HeartHours dueAt(int quarter, int end) {
        HeartHours x = dueAt(quarter);
        x.ends(end);
        return x;
    }

    void p17_theFirstHourAndTheLast() {
        still(() -> dueAt(0, 12), 0, "when", 0);
        still(() -> dueAt(44, 12), 11, "when", 0);
        still(() -> dueAt(44, 11), NONE, "when", 0);
        still(() -> dueAt(60, 16), 15, "when", 0);
        still(() -> dueAt(60, 15), NONE, "when", 0);
    }

    void p17_noneIfItIsNeverInTime() {
        still(() -> dueAt(43, 16), NONE, "when", 0);
    }

    void p17_noneIfItDoesNotWaitNow() {
        still(Edge::over, NONE, "when", 0);
        HeartHours x = two();
        x.change(0, 4, 0);
        due(x, NONE, "when", 0);
        due(x, 1, "when", 1);
    }

    void p17_noneWhenItIsOver() {
        still(Edge::over, NONE, "when", 1);
    }

    void p17_theHourInWhichItLeavesCounts() {
        HeartHours x = dueAt(8, 12);
        tell(x, "baker leave;");
        due(x, 2, "when", 0);
        tell(x, "baker wait;");
        due(x, NONE, "when", 0);
    }

    void p17_hoursAreCountedFrom0AlsoBehindSome() {
        due(after(dueAt(44, 12), 5), 11, "when", 0);
        due(after(dueAt(0, 12), 0), 0, "when", 0);
        due(after(dueAt(20, 12), 5), 5, "when", 0);
    }

    // ---- 18: giftFor

    void p18_noSuchGuild() {
        still(BAD, "giftFor", -1);
        still(BAD, "giftFor", 5);
        still(BAD, "giftFor", LOWEST);
        still(BAD, "giftFor", HIGHEST);
        still(HeartHours::new, BAD, "giftFor", 0);
    }

    private static HeartHours ruled(String rules) {
        HeartHours x = lone(1, 0, 4);
        tell(x, rules);
        return x;
    }

    void p18_theLeastGiftAndTheGreatest() {
        still(() -> ruled("baker if gift>8 come; baker wait;"), 9, "giftFor", 0);
        still(() -> ruled("baker if gift>9 come; baker wait;"), 0, "giftFor", 0);
        still(() -> ruled("baker if gift<1 come; baker wait;"), 0, "giftFor", 0);
        still(() -> ruled("baker if gift>0 come; baker wait;"), 1, "giftFor", 0);
    }

    void p18_ofSeveralTheLeast() {
        still(() -> ruled(""), 0, "giftFor", 0);
        still(() -> ruled("baker if gift=3 come; baker if gift=7 come; baker wait;"), 3, "giftFor", 0);
    }

    void p18_mostOfAllAndNotOfTheFirst() {
        // leaving is worth 1, coming 15
        still(() -> ruled("baker if gift<6 leave; baker if gift>7 wait;"), 6, "giftFor", 0);
    }

    void p18_whenItIsOverAllAreWorth0() {
        still(Edge::over, 0, "giftFor", 0);
        still(Edge::over, 0, "giftFor", 1);
    }

    void p18_oneThatDoesNotWaitMakesNoDifference() {
        HeartHours x = lone(1, 0, 7);
        x.change(0, 4, 0);
        due(x, 0, "giftFor", 0);
        due(x, 7, "guildOf", 0, 2);
    }

    void p18_theLastHourOfTheRestCounts() {
        HeartHours x = dueAt(44, 12);
        tell(x, "baker if gift=9 come; baker wait;");
        due(x, 9, "giftFor", 0);
        x.ends(11);
        due(x, 0, "giftFor", 0);
    }

    // ---- 19: dueFor

    void p19_noSuchGuild() {
        still(BAD, "dueFor", -1);
        still(BAD, "dueFor", 5);
        still(BAD, "dueFor", LOWEST);
        still(BAD, "dueFor", HIGHEST);
        still(HeartHours::new, BAD, "dueFor", 0);
    }

    /** One HOUR alone, HANDS so, a STREET that bears nothing. */
    private static HeartHours handsAt(int hands, int shift) {
        HeartHours x = dueAt(30, 1);
        x.heart(1, hands);
        x.street(0, 0, shift);
        return x;
    }

    void p19_theLeastDueAndTheGreatest() {
        still(() -> handsAt(0, 0), 0, "dueFor", 0);
        still(() -> handsAt(1, 0), 1, "dueFor", 0);
        still(() -> handsAt(59, 0), 59, "dueFor", 0);
        still(() -> handsAt(60, 0), 60, "dueFor", 0);
        still(() -> handsAt(61, 0), 0, "dueFor", 0);
    }

    void p19_shiftCountsToo() {
        still(() -> handsAt(9, 9), 0, "dueFor", 0);
        still(() -> handsAt(8, 9), 0, "dueFor", 0);
        still(() -> handsAt(10, 9), 1, "dueFor", 0);
        still(() -> handsAt(69, 9), 60, "dueFor", 0);
        still(() -> handsAt(70, 9), 0, "dueFor", 0);
    }

    void p19_ofSeveralTheLeast() {
        // HANDS are 0, 4, 8, ..: each of these is worth 15, as the others aren't
        still(() -> dueAt(30, 12), 0, "dueFor", 0);
        due(after(dueAt(30, 12), 2), 8, "dueFor", 0);
    }

    void p19_whenItIsOverAllAreWorth0() {
        still(Edge::over, 0, "dueFor", 0);
        still(Edge::over, 0, "dueFor", 1);
    }

    void p19_oneThatDoesNotWaitMakesNoDifference() {
        HeartHours x = lone(1, 7, 0);
        x.change(0, 4, 0);
        x.heart(1, 20);
        due(x, 0, "dueFor", 0);
        due(x, 7, "guildOf", 0, 1);
    }
}
