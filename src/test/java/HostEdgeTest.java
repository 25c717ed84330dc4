/** The edges of promises 42 to 51: sheets, shelves, acts of things, the trace, how many there are. */
public final class HostEdgeTest extends Edge {
    public static void main(String[] args) throws Exception {
        new HostEdgeTest().run(42, 51);
    }

    private static final int NOTHING = -11, OUTSIDE = -12, OTHER_SORT = -13, BELOW_0 = -14, BY_0 = -15;

    // ---- 42: sheet

    void p42_sheetIs0To3() {
        due(busy(), 1, "sheet", 0, 0, 1);
        due(busy(), 1, "sheet", 3, 0, 1);
        refused(BAD, "sheet", -1, 0, 1);
        refused(BAD, "sheet", 4, 0, 1);
        refused(BAD, "sheet", LOWEST, 0, 1);
        refused(BAD, "sheet", HIGHEST, 0, 1);
        refused(BAD, "sheet", -1, -1, 0);
        refused(BAD, "sheet", 4, -1, 0);
    }

    void p42_sortIsMinus1To4() {
        due(busy(), 1, "sheet", 0, -1, 1);
        due(busy(), 1, "sheet", 0, 4, 1);
        refused(BAD, "sheet", 0, -2, 1);
        refused(BAD, "sheet", 0, 5, 1);
        refused(BAD, "sheet", 0, LOWEST, 1);
        refused(BAD, "sheet", 0, HIGHEST, 1);
    }

    void p42_nIs0To40() {
        for (int sort = 0; sort <= 4; sort++) {
            HeartHours x = busy();
            due(x, 1, "sheet", 0, sort, 0);
            due(x, OUTSIDE, "item", 0, sort, 0);
            due(x, 1, "sheet", 0, sort, 40);
            due(x, 0, "item", 0, sort, 39);
            due(x, OUTSIDE, "item", 0, sort, 40);
            refused(BAD, "sheet", 0, sort, 41);
            refused(BAD, "sheet", 0, sort, HIGHEST);
            refused(BELOW_0, "sheet", 0, sort, -1);
            refused(BELOW_0, "sheet", 0, sort, LOWEST);
        }
    }

    void p42_badIsNamedAheadOfASizeBelow0() {
        refused(BAD, "sheet", 4, 0, -1);
        refused(BAD, "sheet", -1, 0, -1);
        refused(BAD, "sheet", 0, 5, -1);
        refused(BAD, "sheet", 0, -2, -1);
    }

    void p42_ofAMissingOneNCountsNothing() {
        for (int n : new int[] {0, 40, 41, -1, LOWEST, HIGHEST}) {
            HeartHours x = busy();
            due(x, 1, "sheet", 0, -1, n);
            due(x, NOTHING, "item", 0, 0, 0);
        }
        still(1, "sheet", 3, -1, 0);
    }

    void p42_allAre0AlsoInPlaceOfWhatWasWritten() {
        HeartHours x = busy();
        for (int sort = 0; sort <= 4; sort++) {
            x.sheet(1, sort, 40);
            for (int i = 0; i < 40; i++) {
                due(x, 0, "item", 1, sort, i);
                x.write(1, i, 1);
            }
        }
        due(x, 1, "sheet", 1, 4, 40);
        due(x, 0, "item", 1, 4, 0);
        due(x, 0, "item", 1, 4, 39);
    }

    void p42_theOtherSheetsStay() {
        HeartHours x = busy();
        x.sheet(1, 0, 40);
        x.sheet(1, 3, 2);
        x.write(1, 1, 300);
        alike("a sheet there and back", x, busy());
    }

    // ---- 43: write

    void p43_sheetIs0To3() {
        due(busy(), 1, "write", 0, 0, 9);
        refused(BAD, "write", -1, 0, 9);
        refused(BAD, "write", 4, 0, 9);
        refused(BAD, "write", LOWEST, 0, 9);
        refused(BAD, "write", HIGHEST, 0, 9);
        HeartHours x = busy();
        x.sheet(3, 2, 1);
        due(x, 1, "write", 3, 0, 9);
        due(x, 9, "item", 3, 2, 0);
    }

    void p43_nothingIsWrittenOnAMissingOne() {
        refused(NOTHING, "write", 3, 0, 9);
        refused(NOTHING, "write", 3, -1, 9);
        refused(NOTHING, "write", 3, 40, 9);
    }

    void p43_theFirstPlaceAndTheLast() {
        HeartHours x = busy();
        x.sheet(3, 2, 40);
        due(x, 1, "write", 3, 0, 7);
        due(x, 1, "write", 3, 39, 8);
        due(x, 7, "item", 3, 2, 0);
        due(x, 8, "item", 3, 2, 39);
        due(x, 0, "item", 3, 2, 1);
        due(x, 0, "item", 3, 2, 38);
        due(x, OUTSIDE, "write", 3, 40, 9);
        refused(OUTSIDE, "write", 0, -1, 9);
        refused(OUTSIDE, "write", 0, 3, 9);
        refused(OUTSIDE, "write", 0, 40, 9);
        refused(OUTSIDE, "write", 0, LOWEST, 9);
        refused(OUTSIDE, "write", 0, HIGHEST, 9);
    }

    void p43_anEmptyRowHasNoPlace() {
        HeartHours x = busy();
        x.sheet(0, 0, 0);
        due(x, OUTSIDE, "write", 0, 0, 9);
        due(x, OUTSIDE, "write", 0, -1, 9);
    }

    /** What stands in a row of that sort when v was written. */
    private void narrowed(int sort, int v, int want) {
        HeartHours x = new HeartHours();
        x.sheet(2, sort, 3);
        due(x, 1, "write", 2, 1, v);
        due(x, want, "item", 2, sort, 1);
        due(x, 0, "item", 2, sort, 0);
        due(x, 0, "item", 2, sort, 2);
    }

    void p43_bytesWrap() {
        narrowed(0, 127, 127);
        narrowed(0, 128, -128);
        narrowed(0, -128, -128);
        narrowed(0, -129, 127);
        narrowed(0, 255, -1);
        narrowed(0, 256, 0);
        narrowed(0, HIGHEST, -1);
        narrowed(0, LOWEST, 0);
    }

    void p43_shortsWrap() {
        narrowed(1, 32767, 32767);
        narrowed(1, 32768, -32768);
        narrowed(1, -32768, -32768);
        narrowed(1, -32769, 32767);
        narrowed(1, 65535, -1);
        narrowed(1, 65536, 0);
        narrowed(1, HIGHEST, -1);
        narrowed(1, LOWEST, 0);
    }

    void p43_intsAndLongsTakeAll() {
        for (int sort = 2; sort <= 3; sort++) {
            narrowed(sort, HIGHEST, HIGHEST);
            narrowed(sort, LOWEST, LOWEST);
            narrowed(sort, -1, -1);
        }
    }

    void p43_booleansAreWhetherItIsNot0() {
        narrowed(4, 0, 0);
        narrowed(4, 1, 1);
        narrowed(4, 2, 1);
        narrowed(4, -1, 1);
        narrowed(4, 256, 1);
        narrowed(4, 65536, 1);
        narrowed(4, LOWEST, 1);
        narrowed(4, HIGHEST, 1);
    }

    // ---- 44: item

    void p44_sheetIs0To3() {
        still(1, "item", 0, 0, 0);
        still(NOTHING, "item", 3, 0, 0);
        still(BAD, "item", -1, 0, 0);
        still(BAD, "item", 4, 0, 0);
        still(BAD, "item", LOWEST, 0, 0);
        still(BAD, "item", HIGHEST, 0, 0);
    }

    void p44_sortIs0To4() {
        still(1, "item", 0, 0, 0);
        still(0, "item", 2, 4, 0);
        still(BAD, "item", 0, -1, 0);
        still(BAD, "item", 0, 5, 0);
        still(BAD, "item", 0, LOWEST, 0);
        still(BAD, "item", 0, HIGHEST, 0);
    }

    void p44_aRowOfAnotherSort() {
        for (int its = 0; its <= 4; its++) {
            HeartHours x = new HeartHours();
            x.sheet(0, its, 2);
            for (int sort = 0; sort <= 4; sort++) due(x, sort == its ? 0 : OTHER_SORT, "item", 0, sort, 1);
        }
    }

    void p44_aMissingRowIsOfNoOtherSort() {
        for (int sort = 0; sort <= 4; sort++) {
            still(NOTHING, "item", 3, sort, 0);
            still(NOTHING, "item", 3, sort, -1);
            still(NOTHING, "item", 3, sort, 40);
        }
    }

    void p44_placesAreThoseOfTheRow() {
        still(1, "item", 0, 0, 0);
        still(77, "item", 0, 0, 2);
        still(OUTSIDE, "item", 0, 0, -1);
        still(OUTSIDE, "item", 0, 0, 3);
        still(OUTSIDE, "item", 0, 0, LOWEST);
        still(OUTSIDE, "item", 0, 0, HIGHEST);
    }

    void p44_ofSeveralTheFirstNamed() {
        still(BAD, "item", 4, 5, 99);
        still(BAD, "item", 3, 5, 99);
        still(BAD, "item", 3, -1, 0);
        still(OTHER_SORT, "item", 0, 1, 3);
        still(OTHER_SORT, "item", 0, 4, -1);
    }

    void p44_anItemMayBeAsLowAsARefusal() {
        HeartHours x = new HeartHours();
        x.sheet(0, 0, 5);
        int[] low = {BAD, NOTHING, OUTSIDE, OTHER_SORT, -128};
        for (int i = 0; i < 5; i++) x.write(0, i, low[i]);
        for (int i = 0; i < 5; i++) due(x, low[i], "item", 0, 0, i);
    }

    // ---- 45: goAll

    /** two(), SHEET 0 a row of bytes as told. */
    private static HeartHours written(int... items) {
        HeartHours x = two();
        x.sheet(0, 0, items.length);
        for (int i = 0; i < items.length; i++) x.write(0, i, items[i]);
        return x;
    }

    private static HeartHours writtenTill(int end, int... items) {
        HeartHours x = written(items);
        x.ends(end);
        return x;
    }

    private void numbersOfSheetAndN(String name) {
        for (int sheet : new int[] {-1, 4, LOWEST, HIGHEST}) still(BAD, name, sheet, 0, 1);
        for (int n : new int[] {-1, 21, LOWEST, HIGHEST}) {
            still(BAD, name, 0, 0, n);
            still(BAD, name, 1, 0, n);
            still(BAD, name, 3, 0, n);
            still(BAD, name, 0, 99, n);
        }
    }

    void p45_sheetIs0To3AndNIs0To20() {
        numbersOfSheetAndN("goAll");
        still(() -> written(1), 0, "goAll", 0, 0, 0);
        HeartHours x = two();
        x.ends(16);
        x.sheet(3, 0, 40);
        x.write(3, 39, 1);
        due(x, 0, "goAll", 3, 0, 16);
        due(x, 16, "state", 0);
        due(x, 0, "goAll", 3, 20, 20);
    }

    void p45_aRowOfAnotherSort() {
        refused(OTHER_SORT, "goAll", 1, 0, 1);
        refused(OTHER_SORT, "goAll", 1, 99, 1);
        refused(OTHER_SORT, "goAll", 2, 0, 0);
        for (int sort = 1; sort <= 4; sort++) {
            HeartHours x = two();
            x.sheet(0, sort, 3);
            due(x, OTHER_SORT, "goAll", 0, 0, 1);
        }
    }

    void p45_aMissingRow() {
        refused(NOTHING, "goAll", 3, 0, 1);
        refused(NOTHING, "goAll", 3, 0, 0);
        refused(NOTHING, "goAll", 3, 99, 20);
    }

    void p45_ofNoItemsNothingIsDone() {
        still(() -> written(1, 2), 0, "goAll", 0, 0, 0);
        still(() -> written(1, 2), 0, "goAll", 0, 2, 0);
        still(() -> written(1, 2), 0, "goAll", 0, -1, 0);
        still(() -> written(1, 2), 0, "goAll", 0, HIGHEST, 0);
    }

    void p45_eachIsFollowedByAnHour() {
        HeartHours x = written(0, 0, 1, 2);
        due(x, 15, "goAll", 0, 2, 1);
        due(x, 1, "state", 0);
        due(x, 12, "goAll", 0, 3, 1);
        due(x, 2, "state", 0);
        due(x, 27, "state", 2);
        due(x, 3, "state", 5);
        HeartHours y = written(1, 2);
        due(y, 27, "goAll", 0, 0, 2);
        due(y, 27, "state", 2);
        due(y, 8, "state", 8);
    }

    void p45_whatIsNoActIsLeftOut() {
        HeartHours x = written(3, -1, 1, 127, -128, 2);
        due(x, 27, "goAll", 0, 0, 6);
        due(x, 2, "state", 0);
        HeartHours y = written(3, -1, 127, -128);
        due(y, 0, "goAll", 0, 0, 4);
        due(y, 0, "state", 0);
    }

    void p45_whenItIsOverItIsLeftOut() {
        HeartHours x = writtenTill(1, 1, 2, 0);
        due(x, 15, "goAll", 0, 0, 3);
        due(x, 1, "state", 0);
        due(x, 15, "state", 2);
        due(x, 0, "goAll", 0, 0, 3);
        due(x, 1, "state", 0);
    }

    void p45_whatStoodAheadOfThePlaceOutsideWasDone() {
        HeartHours x = written(1, 2);
        due(x, OUTSIDE, "goAll", 0, 0, 3);
        due(x, 2, "state", 0);
        due(x, 27, "state", 2);
        due(x, 3, "state", 5);
        HeartHours y = written(1, 2);
        due(y, OUTSIDE, "goAll", 0, 1, 20);
        due(y, 1, "state", 0);
    }

    void p45_aFirstPlaceOutsideChangesNothing() {
        still(() -> written(1, 2), OUTSIDE, "goAll", 0, -1, 3);
        still(() -> written(1, 2), OUTSIDE, "goAll", 0, 2, 1);
        still(() -> written(1, 2), OUTSIDE, "goAll", 0, LOWEST, 20);
        still(() -> written(1, 2), OUTSIDE, "goAll", 0, HIGHEST, 20);
        still(() -> written(), OUTSIDE, "goAll", 0, 0, 1);
    }

    void p45_aPlaceOutsideIsToldAlsoWhenItIsOver() {
        HeartHours x = writtenTill(1, 1, 2);
        due(x, OUTSIDE, "goAll", 0, 0, 3);
        due(x, 15, "state", 2);
        due(x, 1, "state", 0);
    }

    void p45_oneThatIsTooLateComesForNothing() {
        HeartHours x = written(2);
        due(x, 0, "goAll", 0, 0, 1);
        due(x, 1, "state", 4);
        due(x, 0, "state", 5);
        due(x, 5, "state", 7);
    }

    // ---- 46: wouldBe

    void p46_sheetIs0To3AndNIs0To20() {
        numbersOfSheetAndN("wouldBe");
        still(() -> written(1), 0, "wouldBe", 0, 0, 0);
        still(() -> written(), 0, "wouldBe", 0, 0, 0);
        HeartHours x = two();
        x.ends(16);
        x.sheet(3, 0, 40);
        due(x, 0, "wouldBe", 3, 0, 16);
        due(x, STATE, "wouldBe", 3, 0, 20);
        due(x, 0, "wouldBe", 3, 39, 1);
        due(x, OUTSIDE, "wouldBe", 3, 39, 2);
    }

    void p46_aRowOfAnotherSort() {
        still(OTHER_SORT, "wouldBe", 1, 0, 1);
        still(OTHER_SORT, "wouldBe", 1, 99, 1);
        still(OTHER_SORT, "wouldBe", 2, 0, 0);
        for (int sort = 1; sort <= 4; sort++) {
            HeartHours x = two();
            x.sheet(0, sort, 3);
            due(x, OTHER_SORT, "wouldBe", 0, 0, 1);
        }
    }

    void p46_aMissingRow() {
        still(NOTHING, "wouldBe", 3, 0, 1);
        still(NOTHING, "wouldBe", 3, 0, 0);
        still(NOTHING, "wouldBe", 3, 99, 20);
    }

    void p46_itChangesNothing() {
        still(() -> written(1, 2), 15, "wouldBe", 0, 0, 1);
        still(() -> written(1, 2), 27, "wouldBe", 0, 0, 2);
        still(() -> written(1, 2), 0, "wouldBe", 0, 1, 1);
    }

    void p46_aPlaceOutside() {
        still(() -> written(1, 2), OUTSIDE, "wouldBe", 0, 0, 3);
        still(() -> written(1, 2), OUTSIDE, "wouldBe", 0, 2, 1);
        still(() -> written(1, 2), OUTSIDE, "wouldBe", 0, -1, 1);
        still(() -> written(1, 2), OUTSIDE, "wouldBe", 0, LOWEST, 20);
        still(() -> written(1, 2), OUTSIDE, "wouldBe", 0, HIGHEST, 20);
        still(() -> written(1, 2), 0, "wouldBe", 0, HIGHEST, 0);
    }

    void p46_oneThatIsNoAct() {
        still(() -> written(3), STATE, "wouldBe", 0, 0, 1);
        still(() -> written(-1), STATE, "wouldBe", 0, 0, 1);
        still(() -> written(1, 127), STATE, "wouldBe", 0, 0, 2);
        still(() -> written(1, -128), STATE, "wouldBe", 0, 0, 2);
        still(() -> written(1, 127), 15, "wouldBe", 0, 0, 1);
    }

    void p46_oneAheadOfWhichItWouldBeOver() {
        still(() -> writtenTill(2, 1, 2, 0), 27, "wouldBe", 0, 0, 2);
        still(() -> writtenTill(2, 1, 2, 0), STATE, "wouldBe", 0, 0, 3);
        still(() -> after(writtenTill(1, 1), 1), STATE, "wouldBe", 0, 0, 1);
        still(() -> after(writtenTill(1, 1), 1), 0, "wouldBe", 0, 0, 0);
    }

    void p46_byItemsTheFirstOneThatIsWrongIsTold() {
        still(() -> written(1, 9), STATE, "wouldBe", 0, 0, 3);
        still(() -> written(1, 9), STATE, "wouldBe", 0, 1, 2);
        still(() -> writtenTill(1, 1, 2), STATE, "wouldBe", 0, 0, 3);
        still(() -> writtenTill(2, 1, 2), OUTSIDE, "wouldBe", 0, 0, 3);
        still(() -> after(writtenTill(1, 1), 1), OUTSIDE, "wouldBe", 0, 1, 1);
    }

    // ---- 47: shelf

    void p47_shelfIs0To3() {
        due(busy(), 1, "shelf", 0, 0, 0);
        due(busy(), 1, "shelf", 3, 0, 0);
        for (int what = 0; what <= 2; what++) {
            refused(BAD, "shelf", -1, what, 0);
            refused(BAD, "shelf", 4, what, 0);
            refused(BAD, "shelf", LOWEST, what, 0);
            refused(BAD, "shelf", HIGHEST, what, 0);
        }
    }

    void p47_whatIs0To2() {
        refused(BAD, "shelf", 0, -1, 0);
        refused(BAD, "shelf", 0, 3, 0);
        refused(BAD, "shelf", 0, LOWEST, 0);
        refused(BAD, "shelf", 0, HIGHEST, 0);
    }

    void p47_aGuildIsOneThereIs() {
        HeartHours x = busy();
        due(x, 1, "shelf", 0, 0, 4);
        due(x, 4, "taken", 0, 5);
        due(x, 1, "shelf", 0, 0, 0);
        due(x, 0, "taken", 0, 1);
        refused(BAD, "shelf", 0, 0, -1);
        refused(BAD, "shelf", 0, 0, 5);
        refused(BAD, "shelf", 0, 0, LOWEST);
        refused(BAD, "shelf", 0, 0, HIGHEST);
        still(HeartHours::new, BAD, "shelf", 0, 0, 0);
    }

    void p47_aSheetIs0To3() {
        HeartHours x = busy();
        x.sheet(3, 1, 40);
        due(x, 1, "shelf", 2, 1, 0);
        due(x, 3, "taken", 2, 10);
        due(x, 1, "shelf", 2, 1, 3);
        due(x, 40, "taken", 2, 11);
        refused(BAD, "shelf", 0, 1, -1);
        refused(BAD, "shelf", 0, 1, 4);
        refused(BAD, "shelf", 0, 1, LOWEST);
        refused(BAD, "shelf", 0, 1, HIGHEST);
    }

    void p47_aMissingRowIsNothing() {
        HeartHours x = busy();
        due(x, 1, "shelf", 0, 1, 3);
        due(x, NOTHING, "taken", 0, 3);
        due(x, NOTHING, "taken", 0, 10);
        x.sheet(3, 0, 5);
        due(x, NOTHING, "taken", 0, 10);
    }

    void p47_ofNothingNCountsNothing() {
        for (int n : new int[] {0, -1, 99, LOWEST, HIGHEST}) {
            HeartHours x = busy();
            due(x, 1, "shelf", 0, 2, n);
            due(x, NOTHING, "taken", 0, 0);
        }
    }

    void p47_itHoldsTheRowAndNotTheSheet() {
        HeartHours x = busy();
        due(x, 2, "taken", 1, 13);
        x.sheet(1, 0, 40);
        due(x, 2, "taken", 1, 13);
        due(x, OTHER_SORT, "taken", 1, 10);
        x.sheet(1, -1, 0);
        due(x, 2, "taken", 1, 13);
    }

    void p47_theOtherShelvesStay() {
        HeartHours x = busy();
        x.shelf(2, 0, 0);
        x.shelf(2, 2, 0);
        alike("a shelf there and back", x, busy());
    }

    // ---- 48: taken

    void p48_shelfIs0To3() {
        still(2, "taken", 0, 0);
        still(4, "taken", 3, 0);
        still(BAD, "taken", -1, 0);
        still(BAD, "taken", 4, 0);
        still(BAD, "taken", LOWEST, 0);
        still(BAD, "taken", HIGHEST, 0);
    }

    void p48_asIs0To5Or10To14() {
        for (int shelf = 0; shelf < 4; shelf++) {
            for (int as : new int[] {-1, 6, 7, 8, 9, 15, LOWEST, HIGHEST}) still(BAD, "taken", shelf, as);
        }
        still(2, "taken", 0, 0);
        still(4, "taken", 3, 5);
        still(OTHER_SORT, "taken", 0, 10);
        still(OTHER_SORT, "taken", 0, 14);
    }

    void p48_aThingOfAKindOrUnderIt() {
        int[] fits = {0, 0b000011, 0b000101, 0b001101, 0b010001, 0b110001};
        for (int kind = 1; kind <= 5; kind++) {
            HeartHours x = six();
            x.remake(5, kind);
            x.shelf(2, 0, 5);
            for (int as = 0; as <= 5; as++) due(x, (fits[kind] >> as & 1) == 1 ? 5 : OTHER_SORT, "taken", 2, as);
        }
    }

    void p48_aRowOfASort() {
        for (int sort = 0; sort <= 4; sort++) {
            for (int n : new int[] {0, 1, 40}) {
                HeartHours x = new HeartHours();
                x.sheet(3, sort, n);
                x.shelf(0, 1, 3);
                for (int as = 10; as <= 14; as++) due(x, as == 10 + sort ? n : OTHER_SORT, "taken", 0, as);
            }
        }
    }

    void p48_aThingIsNoRowAndARowIsNoThing() {
        for (int as = 10; as <= 14; as++) still(OTHER_SORT, "taken", 0, as);
        for (int as = 0; as <= 5; as++) still(OTHER_SORT, "taken", 1, as);
    }

    void p48_nothingIsOfNoOtherSort() {
        for (int as = 0; as <= 5; as++) still(NOTHING, "taken", 2, as);
        for (int as = 10; as <= 14; as++) still(NOTHING, "taken", 2, as);
    }

    void p48_badIsNamedAheadOfTheOthers() {
        still(BAD, "taken", 2, 6);
        still(BAD, "taken", 4, 6);
        still(BAD, "taken", 4, 14);
    }

    void p48_nothingIfThereIsNoSuchGuildAtTheTime() {
        HeartHours x = busy();
        x.again();
        due(x, NOTHING, "taken", 0, 0);
        due(x, NOTHING, "taken", 0, 10);
        due(x, 0, "act", 0, 0, 5);
        for (int k = 1; k <= 2; k++) x.guild(1, 0, 0, 0);
        due(x, 2, "taken", 0, 1);
        due(x, OTHER_SORT, "taken", 0, 3);
        due(x, NOTHING, "taken", 3, 0);
    }

    // ---- 49: act

    /** A thing with that number, KIND and STREET, on SHELF 0. */
    private static HeartHours thing(int number, int kind, int street) {
        HeartHours x = six();
        x.remake(number, kind);
        x.change(number, 3, street);
        x.shelf(0, 0, number);
        return x;
    }

    private void traceIs(HeartHours x, int... bodies) {
        due(x, bodies.length, "many", 6);
        for (int i = 0; i < bodies.length; i++) due(x, bodies[i], "trace", i);
        due(x, NONE, "trace", bodies.length);
    }

    private void noAct(int shelf, int act) {
        HeartHours x = busy();
        due(x, 11, "many", 6);
        due(x, 0, "act", shelf, act, 5);
        traceIs(x);
    }

    void p49_shelfIs0To3() {
        noAct(-1, 0);
        noAct(4, 0);
        noAct(LOWEST, 0);
        noAct(HIGHEST, 0);
        HeartHours x = busy();
        due(x, 5 * 3 - 4, "act", 3, 0, 5);
        traceIs(x, 10);
    }

    void p49_actIs0To3() {
        noAct(0, -1);
        noAct(0, 4);
        noAct(0, LOWEST);
        noAct(0, HIGHEST);
        HeartHours x = thing(0, 1, 5);
        due(x, 7 * 3 - 3, "act", 0, 0, 7);
        due(x, 7 * 3 - 3 + 10, "act", 0, 1, 7);
        due(x, 2, "act", 0, 2, 7);
        due(x, 28 ^ 2, "act", 0, 3, 7);
    }

    void p49_ofNothingOrARowThereIsNoAct() {
        for (int act = 0; act <= 3; act++) {
            noAct(2, act);
            noAct(1, act);
        }
    }

    void p49_nothingButTheTraceChanges() {
        HeartHours x = busy();
        x.act(0, 2, 5);
        x.act(9, 9, 9);
        x.act(0, 3, 5);
        alike("acts", x, busy());
    }

    void p49_knocksWrap() {
        // thrice the highest is the highest less 2, thrice the lowest is the lowest
        due(thing(0, 1, 5), HIGHEST - 2 - 3, "act", 0, 0, HIGHEST);
        due(thing(0, 1, 5), LOWEST - 3, "act", 0, 0, LOWEST);
        due(thing(5, 2, 0), HIGHEST - 2 - 5, "act", 0, 0, HIGHEST);
        due(thing(5, 2, 0), LOWEST - 5, "act", 0, 0, LOWEST);
        due(thing(2, 3, 0), LOWEST - 2 ^ 9, "act", 0, 0, LOWEST);
        due(thing(0, 1, 5), -3, "act", 0, 0, 0);
    }

    void p49_tellsWrap() {
        // the lowest less 1 is the highest; its triple less 1, and 2 times the street
        due(thing(1, 2, 0), HIGHEST - 3, "act", 0, 1, LOWEST);
        due(thing(1, 2, 3), LOWEST + 2, "act", 0, 1, LOWEST);
        // (thrice 2 to the 29th, less 4) times 4
        due(thing(4, 5, 0), LOWEST - 16, "act", 0, 1, 1 << 29);
        due(thing(0, 5, 3), 0, "act", 0, 1, 77);
    }

    void p49_thanksLeaveBelow0IfXIs() {
        due(thing(0, 1, 5), 4, "act", 0, 2, 4);
        due(thing(0, 1, 5), 0, "act", 0, 2, 5);
        due(thing(0, 1, 5), -4, "act", 0, 2, -4);
        due(thing(0, 1, 5), 0, "act", 0, 2, -5);
        due(thing(0, 1, 5), -1, "act", 0, 2, -6);
        due(thing(5, 1, 0), 4, "act", 0, 2, 4);
        due(thing(5, 1, 0), 0, "act", 0, 2, 5);
        due(thing(5, 1, 0), -4, "act", 0, 2, -4);
        due(thing(5, 1, 0), -3, "act", 0, 2, LOWEST);
        due(thing(5, 1, 0), 2, "act", 0, 2, HIGHEST);
    }

    void p49_theLowestByMinus1LeavesNothing() {
        due(thing(1, 1, 0), 0, "act", 0, 2, LOWEST);
        due(thing(0, 1, 1), 0, "act", 0, 2, LOWEST);
        due(thing(1, 4, 0), 1, "act", 0, 2, LOWEST);
    }

    void p49_whatKindsMakeOfThanks() {
        due(thing(0, 4, 5), -1, "act", 0, 2, 7);
        due(thing(0, 4, 5), 3, "act", 0, 2, -7);
        due(thing(0, 4, 5), 1, "act", 0, 2, 0);
        due(thing(0, 4, 5), 4, "act", 0, 2, LOWEST);
        // 1 less what 7 leaves by 3, and thrice 5 less 2
        due(thing(2, 5, 5), 13, "act", 0, 2, 7);
        due(thing(2, 5, 5), 15, "act", 0, 2, -7);
    }

    void p49_whatKindsMakeOfDeals() {
        // 25 and 1 share a bit
        due(thing(0, 1, 5), 24, "act", 0, 3, 6);
        due(thing(1, 2, 3), 22, "act", 0, 3, 7);
        // 14 ^ 1, less what it tells of its street: (thrice 3, less 2) ^ 9, and 10
        due(thing(2, 3, 5), 15 - 24, "act", 0, 3, 7);
        // (18 and 2) ^ 0
        due(thing(3, 4, 1), 20, "act", 0, 3, 7);
        // 4 times 21, ^ 2
        due(thing(4, 5, 2), 84 ^ 2, "act", 0, 3, 7);
        // below 0, both of them
        due(thing(0, 1, 5), -14 ^ -2, "act", 0, 3, -7);
    }

    void p49_partedBy0IsAllThatIsAnswered() {
        int[][] bodies = {{12}, {12}, {12}, {40, 12}, {61, 40, 12}};
        for (int number = 0; number <= 5; number++) {
            for (int kind = 1; kind <= 5; kind++) {
                HeartHours x = thing(number, kind, number);
                due(x, BY_0, "act", 0, 2, 7);
                traceIs(x, bodies[kind - 1]);
                due(x, BY_0, "act", 0, 2, 0);
                due(x, BY_0, "act", 0, 3, 7);
            }
        }
    }

    void p49_dealsPartedBy0EndThere() {
        HeartHours x = thing(3, 3, 3);
        due(x, BY_0, "act", 0, 3, 7);
        traceIs(x, 51, 13, 30, 11, 50, 10, 12);
        HeartHours y = thing(3, 5, 3);
        due(y, BY_0, "act", 0, 3, 7);
        traceIs(y, 13, 60, 11, 10, 61, 40, 12);
    }

    void p49_whereItIsNotPartedBy0NothingIsAmiss() {
        due(thing(3, 1, 3), 7 * 3 - 3 - 3, "act", 0, 0, 7);
        due(thing(3, 1, 3), 7 * 3 - 3 - 3 + 6, "act", 0, 1, 7);
        HeartHours x = thing(3, 1, 3);
        x.act(0, 2, 7);
        due(x, 15, "act", 0, 0, 7);
        x.change(3, 3, 4);
        due(x, 0, "act", 0, 2, 7);
    }

    void p49_anAnswerMayBeAsLowAsMinus15() {
        // thrice -4, and 3 less
        HeartHours x = thing(0, 1, 5);
        due(x, -15, "act", 0, 0, -4);
        traceIs(x, 20, 10);
    }

    // ---- 50: trace

    void p50_bodiesAreToldFrom0() {
        still(51, "trace", 0);
        still(10, "trace", 10);
        still(NONE, "trace", -1);
        still(NONE, "trace", 11);
        still(NONE, "trace", 29);
        still(NONE, "trace", 30);
        still(NONE, "trace", LOWEST);
        still(NONE, "trace", HIGHEST);
    }

    void p50_theLongestIsWhole() {
        traceIs(busy(), 51, 13, 30, 11, 50, 10, 12, 30, 11, 50, 10);
    }

    void p50_eachKindsBodiesAsTheyBegan() {
        int[][][] bodies = {
            {{20, 10}, {11, 20, 10}, {12}, {13, 11, 20, 10, 12}},
            {{10}, {30, 11, 10}, {12}, {13, 30, 11, 10, 12}},
            {{50, 10}, {30, 11, 50, 10}, {12}, {51, 13, 30, 11, 50, 10, 12, 30, 11, 50, 10}},
            {{10}, {11, 10}, {40, 12}, {13, 11, 10, 40, 12}},
            {{10}, {60, 11, 10}, {61, 40, 12, 10}, {13, 60, 11, 10, 61, 40, 12, 10}},
        };
        for (int kind = 1; kind <= 5; kind++) {
            for (int act = 0; act <= 3; act++) {
                HeartHours x = thing(2, kind, 5);
                x.act(0, act, 7);
                traceIs(x, bodies[kind - 1][act]);
            }
        }
    }

    void p50_onlyTheLatestActIsKept() {
        HeartHours x = busy();
        x.act(3, 0, 1);
        traceIs(x, 10);
        x.act(2, 0, 1);
        traceIs(x);
    }

    void p50_otherCallsLeaveItAsItIs() {
        HeartHours x = busy();
        x.hour();
        x.anew();
        x.shelf(0, 2, 0);
        x.again();
        due(x, 11, "many", 6);
        due(x, 51, "trace", 0);
    }

    // ---- 51: many

    void p51_whatIs0To6() {
        int[] there = {5, 2, 1, 2, 3, 10, 11};
        for (int what = 0; what <= 6; what++) still(there[what], "many", what);
        still(BAD, "many", -1);
        still(BAD, "many", 7);
        still(BAD, "many", LOWEST);
        still(BAD, "many", HIGHEST);
    }

    void p51_asManyAsThereCanBe() {
        HeartHours x = six();
        for (int k = 0; k < 6; k++) x.change(k, 5, 1);
        for (int r = 0; r < 6; r++) x.report(0, 0, 0, 0);
        tell(x, times(8, "book come;"));
        x.prove(4);
        feedText(x, times(200, " "));
        int[] there = {6, 8, 6, 6, 4, 200, 0};
        for (int what = 0; what <= 6; what++) due(x, there[what], "many", what);
    }

    void p51_asFewAsThereCanBe() {
        for (int what = 0; what <= 6; what++) due(new HeartHours(), 0, "many", what);
    }
}
