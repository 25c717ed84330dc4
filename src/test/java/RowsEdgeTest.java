/** The edges of promises 38 to 41: the rows of a plan, and who reads them. */
public final class RowsEdgeTest extends Edge {
    public static void main(String[] args) throws Exception {
        new RowsEdgeTest().run(38, 41);
    }

    private static HeartHours proved() {
        HeartHours x = two();
        x.prove(4);
        return x;
    }

    private void rowsAre(HeartHours x, int... numbers) {
        due(x, numbers.length / 3, "many", 4);
        for (int i = 0; i < numbers.length; i++) due(x, numbers[i], "row", i / 3, i % 3);
        due(x, -9, "row", numbers.length / 3, 0);
    }

    // ---- 38: prove

    void p38_nIs0To4() {
        due(proved(), 0, "prove", 0);
        due(proved(), 4, "prove", 4);
        refused(BAD, "prove", -1);
        refused(BAD, "prove", 5);
        refused(BAD, "prove", LOWEST);
        refused(BAD, "prove", HIGHEST);
        still(Edge::over, BAD, "prove", 5);
    }

    void p38_rowsTellActWorthAndThoseDone() {
        rowsAre(proved(), 1, 15, 1, 2, 12, 3, 0, 0, 3, 0, 0, 3);
        HeartHours x = two();
        x.prove(1);
        rowsAre(x, 1, 15, 1);
    }

    void p38_rowsComeInPlaceOfThoseAhead() {
        HeartHours x = proved();
        x.alterRow(0, 0, 9);
        due(x, 2, "prove", 2);
        rowsAre(x, 1, 15, 1, 2, 12, 3);
        due(x, 0, "prove", 0);
        rowsAre(x);
    }

    void p38_fewerIfItIsOver() {
        HeartHours x = proved();
        x.ends(2);
        due(x, 2, "prove", 4);
        rowsAre(x, 1, 15, 1, 2, 12, 3);
        HeartHours y = proved();
        y.ends(1);
        y.hour();
        due(y, 0, "prove", 4);
        rowsAre(y);
    }

    void p38_withoutGuildsNoneIsTold() {
        HeartHours x = new HeartHours();
        due(x, 4, "prove", 4);
        rowsAre(x, 0, 0, 0, 0, 0, 0, 0, 0, 0, 0, 0, 0);
    }

    void p38_thoseDoneAheadCount() {
        HeartHours x = six();
        for (int k = 0; k < 6; k++) {
            x.change(k, 4, 0);
            x.change(k, 5, 1);
        }
        x.change(5, 4, 1);
        x.change(5, 5, 0);
        due(x, 1, "prove", 1);
        rowsAre(x, 6, 15, 63);
    }

    void p38_nothingButRowsChanges() {
        HeartHours x = busy();
        x.prove(4);
        x.prove(3);
        alike("prove twice", x, busy());
    }

    // ---- 39: row

    void p39_rowIsOneThereIs() {
        still(RowsEdgeTest::proved, 1, "row", 0, 0);
        still(RowsEdgeTest::proved, 3, "row", 3, 2);
        still(RowsEdgeTest::proved, -9, "row", -1, 0);
        still(RowsEdgeTest::proved, -9, "row", 4, 0);
        still(RowsEdgeTest::proved, -9, "row", LOWEST, 0);
        still(RowsEdgeTest::proved, -9, "row", HIGHEST, 0);
        still(-9, "row", 3, 0);
        still(HeartHours::new, -9, "row", 0, 0);
    }

    void p39_whatIs0To2() {
        still(RowsEdgeTest::proved, 2, "row", 1, 0);
        still(RowsEdgeTest::proved, 12, "row", 1, 1);
        still(RowsEdgeTest::proved, 3, "row", 1, 2);
        still(RowsEdgeTest::proved, -9, "row", 1, -1);
        still(RowsEdgeTest::proved, -9, "row", 1, 3);
        still(RowsEdgeTest::proved, -9, "row", 1, LOWEST);
        still(RowsEdgeTest::proved, -9, "row", 1, HIGHEST);
        // what lies just beside the rows, were they counted through
        still(RowsEdgeTest::proved, -9, "row", 4, -3);
        still(RowsEdgeTest::proved, -9, "row", -1, 3);
    }

    // ---- 40: alterRow

    void p40_rowIsOneThereIs() {
        due(proved(), 1, "alterRow", 0, 0, 2);
        due(proved(), 3, "alterRow", 3, 2, 2);
        still(RowsEdgeTest::proved, -9, "alterRow", -1, 0, 2);
        still(RowsEdgeTest::proved, -9, "alterRow", 4, 0, 2);
        still(RowsEdgeTest::proved, -9, "alterRow", LOWEST, 0, 2);
        still(RowsEdgeTest::proved, -9, "alterRow", HIGHEST, 0, 2);
        refused(-9, "alterRow", 3, 0, 2);
        still(HeartHours::new, -9, "alterRow", 0, 0, 2);
    }

    void p40_whatIs0To2() {
        due(proved(), 2, "alterRow", 1, 0, 7);
        due(proved(), 12, "alterRow", 1, 1, 7);
        due(proved(), 3, "alterRow", 1, 2, 7);
        still(RowsEdgeTest::proved, -9, "alterRow", 1, -1, 2);
        still(RowsEdgeTest::proved, -9, "alterRow", 1, 3, 2);
        still(RowsEdgeTest::proved, -9, "alterRow", 1, LOWEST, 2);
        still(RowsEdgeTest::proved, -9, "alterRow", 1, HIGHEST, 2);
    }

    void p40_anyNumberIsTaken() {
        HeartHours x = proved();
        due(x, 12, "alterRow", 1, 1, LOWEST);
        due(x, LOWEST, "alterRow", 1, 1, HIGHEST);
        due(x, HIGHEST, "alterRow", 1, 1, -9);
        due(x, -9, "alterRow", 1, 1, 0);
        due(x, 0, "row", 1, 1);
    }

    void p40_theOthersStay() {
        HeartHours x = proved();
        x.alterRow(1, 1, 55);
        rowsAre(x, 1, 15, 1, 2, 55, 3, 0, 0, 3, 0, 0, 3);
    }

    // ---- 41: judge

    void p41_allIsRight() {
        still(RowsEdgeTest::proved, 0, "judge");
        still(HeartHours::new, 0, "judge");
        still(Edge::over, 0, "judge");
    }

    /** proved(), but for one number. */
    private static HeartHours altered(int k, int what, int v) {
        HeartHours x = proved();
        x.alterRow(k, what, v);
        return x;
    }

    void p41_theFirstRowAndTheLast() {
        still(() -> altered(0, 1, 14), 1, "judge");
        still(() -> altered(3, 1, 1), 4, "judge");
        HeartHours x = altered(3, 1, 1);
        x.alterRow(1, 2, 0);
        due(x, 2, "judge");
    }

    void p41_anActIsOne() {
        still(() -> altered(3, 0, -1), 4, "judge");
        still(() -> altered(3, 0, 3), 4, "judge");
        still(() -> altered(3, 0, LOWEST), 4, "judge");
        still(() -> altered(3, 0, HIGHEST), 4, "judge");
    }

    void p41_anotherActToTheSameEndIsRight() {
        still(() -> altered(3, 0, 0), 0, "judge");
        still(() -> altered(3, 0, 1), 0, "judge");
        still(() -> altered(3, 0, 2), 0, "judge");
        still(() -> altered(2, 0, 2), 0, "judge");
    }

    void p41_anotherActToAnotherEndIsWrong() {
        still(() -> altered(0, 0, 0), 1, "judge");
        still(() -> altered(0, 0, 2), 1, "judge");
        still(() -> altered(1, 0, 0), 2, "judge");
    }

    void p41_worthAndThoseDoneAreAsTheyAreThen() {
        still(() -> altered(1, 1, 11), 2, "judge");
        still(() -> altered(1, 1, 13), 2, "judge");
        still(() -> altered(1, 2, 1), 2, "judge");
        still(() -> altered(1, 2, 7), 2, "judge");
        still(() -> altered(1, 2, 67), 2, "judge");
        still(() -> altered(1, 1, 12), 0, "judge");
    }

    private static HeartHours provedTill(int end) {
        HeartHours x = proved();
        x.ends(end);
        return x;
    }

    void p41_noRowIsRightWhenItIsOver() {
        still(() -> provedTill(4), 0, "judge");
        still(() -> provedTill(3), 4, "judge");
        still(() -> provedTill(1), 2, "judge");
        still(() -> after(provedTill(1), 1), 1, "judge");
    }

    void p41_fromHowItIsNow() {
        still(() -> after(proved(), 1), 1, "judge");
        HeartHours x = proved();
        x.change(0, 5, 1);
        due(x, 0, "judge");
        x.change(0, 4, 0);
        due(x, 1, "judge");
    }

    void p41_aGuildMoreMakesOneMoreAct() {
        HeartHours x = altered(3, 0, 3);
        due(x, 4, "judge");
        x.guild(1, 60, 0, 0);
        due(x, 0, "judge");
    }
}
