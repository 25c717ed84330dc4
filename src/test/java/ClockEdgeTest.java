/** The edges of promises 20 to 23: what the clock shows, how far off it is, queues, errands. */
public final class ClockEdgeTest extends Edge {
    public static void main(String[] args) throws Exception {
        new ClockEdgeTest().run(20, 23);
    }

    // ---- 20: shows

    void p20_vIs0To99() {
        still(2, "shows", 0);
        still(() -> quietAt(95), 0, "shows", 99);
        still(BAD, "shows", -1);
        still(BAD, "shows", 100);
        still(BAD, "shows", LOWEST);
        still(BAD, "shows", HIGHEST);
    }

    /** Quiet, MOOD 4, HANDS so: behind the HOURS they are 4, 8, .. more. */
    private static HeartHours quietAt(int hands) {
        HeartHours x = quiet(4);
        x.heart(1, hands);
        return x;
    }

    void p20_asMuchIsEnough() {
        still(() -> quietAt(0), 0, "shows", 4);
        still(() -> quietAt(0), 1, "shows", 5);
        still(() -> quietAt(0), 1, "shows", 8);
        still(() -> quietAt(0), 2, "shows", 9);
    }

    void p20_theLastHourAndNoneBehindIt() {
        still(() -> quietAt(0), 11, "shows", 48);
        still(() -> quietAt(0), NONE, "shows", 49);
        HeartHours x = quietAt(0);
        x.ends(16);
        due(x, 15, "shows", 64);
        due(x, NONE, "shows", 65);
    }

    void p20_handsAre99AtMost() {
        still(() -> quietAt(99), 0, "shows", 99);
        still(() -> quietAt(92), 1, "shows", 99);
        still(() -> quietAt(51), 11, "shows", 99);
        still(() -> quietAt(50), NONE, "shows", 99);
    }

    void p20_whatIsShownNowIsShownBehindTheNextHour() {
        still(() -> quietAt(50), 0, "shows", 20);
        still(() -> quietAt(50), 0, "shows", 0);
        due(after(quietAt(0), 3), 3, "shows", 0);
    }

    void p20_noneWhenItIsOver() {
        still(Edge::over, NONE, "shows", 0);
        still(Edge::over, BAD, "shows", 100);
    }

    void p20_noneIsTold() {
        // a baker's gift would make MOOD 9 and HANDS 2
        still(() -> lone(1, 0, 9), 0, "shows", 4);
    }

    void p20_newsCount() {
        HeartHours x = quietAt(0);
        x.news(0, 13);
        due(x, 0, "shows", 6);
        due(x, 1, "shows", 7);
    }

    // ---- 21: right

    void p21_whatIs0Or1() {
        // the book makes MOOD 5, of which half is 2 as of 4
        still(Edge::two, 12, "right", 0);
        still(Edge::two, 0, "right", 1);
        still(BAD, "right", -1);
        still(BAD, "right", 2);
        still(BAD, "right", LOWEST);
        still(BAD, "right", HIGHEST);
    }

    void p21_eachHourIsRightOrNone() {
        still(() -> quietAt(0), 12, "right", 0);
        still(() -> quietAt(0), 0, "right", 1);
        still(() -> quietAt(1), 0, "right", 0);
        still(() -> quietAt(1), 12, "right", 1);
    }

    void p21_offIsHowFarOnEitherSide() {
        // 2 an hour: 2, 4, .. 24 behind the sun; 6 an hour: as much ahead of it
        still(() -> quiet(9), 156, "right", 1);
        still(() -> quiet(0), 156, "right", 1);
        still(() -> quiet(9), 0, "right", 0);
    }

    void p21_theHourIsTheOneBehindIt() {
        HeartHours x = quietAt(0);
        x.ends(1);
        due(x, 1, "right", 0);
        due(x, 0, "right", 1);
    }

    void p21_handsAre99AtMost() {
        HeartHours x = quietAt(99);
        x.ends(1);
        due(x, 95, "right", 1);
        x.ends(16);
        // 95, 91, .. 35
        due(x, 1040, "right", 1);
    }

    void p21_when0HoursAreLeft() {
        still(Edge::over, 0, "right", 0);
        still(Edge::over, 0, "right", 1);
    }

    void p21_callersOfTheRestCount() {
        // MOOD is 9 behind the baker: HANDS 2, 4, ..
        still(() -> lone(1, 0, 9), 156, "right", 1);
    }

    // ---- 22: queues

    void p22_whatIsMinus1OrAGuild() {
        still(HeartHours::new, 0, "queues", -1);
        still(HeartHours::new, BAD, "queues", 0);
        still(BAD, "queues", -2);
        still(BAD, "queues", 5);
        still(BAD, "queues", 6);
        still(BAD, "queues", LOWEST);
        still(BAD, "queues", HIGHEST);
        still(Edge::six, 63, "queues", 5);
        still(Edge::six, BAD, "queues", 6);
    }

    /** Bakers with DUE as told, all in STREET 0. */
    private static HeartHours dues(int... dues) {
        HeartHours x = quiet(4);
        for (int due : dues) x.guild(1, due, 0, 0);
        return x;
    }

    void p22_twoApartIsCloseAndThreeIsNot() {
        still(() -> dues(10, 12), 1, "queues", -1);
        still(() -> dues(10, 12), 3, "queues", 0);
        still(() -> dues(12, 10), 3, "queues", 1);
        still(() -> dues(10, 13), 2, "queues", -1);
        still(() -> dues(10, 13), 1, "queues", 0);
        still(() -> dues(13, 10), 2, "queues", 1);
        still(() -> dues(0, 0), 1, "queues", -1);
    }

    void p22_shiftCounts() {
        HeartHours x = dues(9, 2);
        x.change(1, 3, 5);
        x.street(5, 0, 9);
        due(x, 1, "queues", -1);
        x.street(5, 0, 4);
        due(x, 2, "queues", -1);
        x.street(0, 0, 4);
        due(x, 2, "queues", -1);
        x.street(0, 0, 0);
        x.street(5, 0, 5);
        due(x, 3, "queues", 0);
    }

    void p22_oneAloneIsAQueue() {
        still(() -> dues(10), 1, "queues", -1);
        still(() -> dues(10), 1, "queues", 0);
    }

    void p22_oneByTheOtherAllHangTogether() {
        still(() -> dues(10, 12, 14, 16, 18, 20), 1, "queues", -1);
        still(() -> dues(10, 12, 14, 16, 18, 20), 63, "queues", 0);
        still(() -> dues(10, 20, 12, 18, 14, 16), 63, "queues", 0);
        still(() -> dues(10, 20, 12, 18, 14, 16), 63, "queues", 1);
        still(() -> dues(20, 18, 16, 14, 12, 10), 63, "queues", 5);
        still(() -> dues(10, 12, 15, 17, 20, 22), 3, "queues", -1);
        still(() -> dues(10, 12, 15, 17, 20, 22), 48, "queues", 5);
    }

    void p22_aQueueWithOthersBetweenIsCountedOnce() {
        still(() -> dues(10, 30, 12), 2, "queues", -1);
        still(() -> dues(10, 30, 12), 5, "queues", 0);
        still(() -> dues(10, 30, 12, 32, 14, 34), 2, "queues", -1);
    }

    void p22_sixByThemselves() {
        still(() -> dues(0, 3, 6, 9, 57, 60), 6, "queues", -1);
        for (int k = 0; k < 6; k++) due(dues(0, 3, 6, 9, 57, 60), 1 << k, "queues", k);
    }

    void p22_oneThatDoesNotWaitIsInNoQueue() {
        HeartHours x = dues(10, 12, 14);
        x.change(1, 4, 0);
        due(x, 0, "queues", 1);
        due(x, 1, "queues", 0);
        due(x, 4, "queues", 2);
        due(x, 2, "queues", -1);
        x.change(0, 4, 0);
        x.change(2, 4, 0);
        due(x, 0, "queues", -1);
    }

    // ---- 23: errands

    void p23_quarterIs0To99() {
        still(() -> gone(60), 60, "errands", 0, 0);
        still(() -> gone(60), 39, "errands", 99, 0);
        for (int what = 0; what < 2; what++) {
            still(BAD, "errands", -1, what);
            still(BAD, "errands", 100, what);
            still(BAD, "errands", LOWEST, what);
            still(BAD, "errands", HIGHEST, what);
        }
    }

    void p23_whatIs0Or1() {
        still(BAD, "errands", 0, -1);
        still(BAD, "errands", 0, 2);
        still(BAD, "errands", 0, LOWEST);
        still(BAD, "errands", 0, HIGHEST);
    }

    /** As dues(), but that none of them WAITS. */
    private static HeartHours gone(int... dues) {
        HeartHours x = dues(dues);
        for (int k = 0; k < dues.length; k++) x.change(k, 4, 0);
        return x;
    }

    void p23_ifAllWaitThereIsNoWay() {
        still(HeartHours::new, 0, "errands", 0, 0);
        still(HeartHours::new, NONE, "errands", 0, 1);
        still(Edge::six, 0, "errands", 50, 0);
        still(Edge::six, NONE, "errands", 50, 1);
    }

    void p23_badIsNamedAheadOfNone() {
        still(Edge::six, BAD, "errands", 100, 1);
        still(Edge::six, BAD, "errands", -1, 1);
    }

    void p23_oneThatStandsThereIs0Far() {
        still(() -> gone(30), 0, "errands", 30, 0);
        still(() -> gone(30), 0, "errands", 30, 1);
        still(() -> gone(30), 1, "errands", 31, 0);
        still(() -> gone(30), 1, "errands", 29, 0);
    }

    void p23_theLeastPlaceIsAt0() {
        still(() -> gone(0), 5, "errands", 5, 0);
        still(() -> gone(0), 99, "errands", 99, 0);
        still(() -> gone(0), 0, "errands", 0, 0);
        still(() -> gone(0), 0, "errands", 5, 1);
    }

    void p23_shiftCounts() {
        HeartHours x = gone(60);
        x.street(0, 0, 9);
        due(x, 69, "errands", 0, 0);
        due(x, 30, "errands", 99, 0);
    }

    void p23_thoseThatWaitAreLeftOut() {
        HeartHours x = gone(10, 20, 60);
        x.change(2, 4, 1);
        due(x, 20, "errands", 0, 0);
        x.change(0, 4, 1);
        due(x, 1, "errands", 0, 1);
    }

    void p23_outsideOfAllTheNearerEndIsFirst() {
        still(() -> gone(20, 10, 40), 35, "errands", 5, 0);
        still(() -> gone(20, 10, 40), 1, "errands", 5, 1);
        still(() -> gone(20, 10, 40), 40, "errands", 50, 0);
        still(() -> gone(20, 10, 40), 2, "errands", 50, 1);
        still(() -> gone(20, 10, 40), 30, "errands", 10, 0);
        still(() -> gone(20, 10, 40), 1, "errands", 10, 1);
        still(() -> gone(20, 10, 40), 30, "errands", 40, 0);
        still(() -> gone(20, 10, 40), 2, "errands", 40, 1);
    }

    void p23_betweenThemTheNearerEndIsFirst() {
        // down by way of 20: 14 and 30; up: 16 and 30
        still(() -> gone(20, 10, 40), 44, "errands", 24, 0);
        still(() -> gone(20, 10, 40), 0, "errands", 24, 1);
        still(() -> gone(20, 10, 40), 44, "errands", 26, 0);
        still(() -> gone(20, 10, 40), 2, "errands", 26, 1);
    }

    void p23_ofSeveralRowsTheLeastGuildIsFirst() {
        still(() -> gone(20, 10, 40), 45, "errands", 25, 0);
        still(() -> gone(20, 10, 40), 0, "errands", 25, 1);
        still(() -> gone(40, 10, 20), 0, "errands", 25, 1);
        still(() -> gone(30, 30, 30), 0, "errands", 25, 1);
        still(() -> gone(10, 40), 0, "errands", 25, 1);
        still(() -> gone(40, 10), 0, "errands", 25, 1);
    }

    void p23_allSixAreGoneTo() {
        still(() -> gone(0, 60, 30, 10, 50, 20), 60, "errands", 0, 0);
        still(() -> gone(0, 60, 30, 10, 50, 20), 0, "errands", 0, 1);
        still(() -> gone(0, 60, 30, 10, 50, 20), 99, "errands", 99, 0);
        still(() -> gone(0, 60, 30, 10, 50, 20), 1, "errands", 99, 1);
        still(() -> gone(60, 59, 58, 57, 56, 1), 5, "errands", 0, 1);
    }
}
