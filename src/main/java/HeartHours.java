import java.util.Arrays;

/** The clock with one customer; the document's promises 1 to 53. */
public final class HeartHours {
    public static final int BAD = -1, FULL = -2, NONE = -3, STATE = -4;

    private static final int NOTHING = -11, OUTSIDE = -12, OTHER_SORT = -13, BELOW_ZERO = -14, PARTED_BY_ZERO = -15;
    private static final int NO_ROW = -9;
    private static final int FAULT_BASE = -100;

    private static final int LAST_HOUR = 16, GUILDS = 6, STREETS = 6, MOODS = 10, GIFTS = 10;
    private static final int MOST_DUE = 60, MOST_HANDS = 99, MOST_MOOD = 9, MOST_SHIFT = 9, MOST_BEAR = 14;
    private static final int REPORTS = 6, REPORT_PARTS = 4;
    private static final int TAPE = 200, RULES = 8, OPEN = 3;
    private static final int PLAN = 4, ROW_PARTS = 3;
    private static final int SHEETS = 4, CELLS = 40, SORTS = 5, MOST_ITEMS = 20, SHELVES = 4, TRACE = 30;
    private static final int BYTES = 0, SHORTS = 1, INTS = 2, LONGS = 3, MISSING = -1;
    private static final int HOLDS_NOTHING = 0, HOLDS_GUILD = 1, HOLDS_ROW = 2;
    private static final int COME = 0, WAIT = 1, LEAVE = 2;

    private final Town town = new Town();
    private final Town kept = new Town();
    private boolean anyKept;
    private final Plans plans = new Plans(town);
    private final RuleReader reader = new RuleReader();
    private final Voice voice = new Voice();
    private final byte[] tape = new byte[TAPE];
    private int tapeSize;
    private final int[] rows = new int[PLAN * ROW_PARTS];
    private int rowCount;
    private final int[] sheetSort = new int[SHEETS];
    private final int[] sheetSize = new int[SHEETS];
    private final long[] cells = new long[SHEETS * CELLS];
    private final int[] shelfHolds = new int[SHELVES];
    private final int[] shelfSort = new int[SHELVES];
    private final int[] shelfNumber = new int[SHELVES];

    public HeartHours() {
        Arrays.fill(sheetSort, MISSING);
    }

    // ---- the town, guilds

    public int guild(int kind, int due, int gift, int street) {
        if (!isKind(kind) || !within(due, MOST_DUE) || !within(gift, GIFTS - 1) || !within(street, STREETS - 1)) {
            return BAD;
        }
        if (town.guilds >= GUILDS) {
            return FULL;
        }
        return town.settle(kind, due, gift, street);
    }

    public int guildOf(int k, int what) {
        if (!town.has(k)) {
            return BAD;
        }
        switch (what) {
            case 0: return town.kind[k];
            case 1: return town.due[k];
            case 2: return town.gift[k];
            case 3: return town.place[k];
            case 4: return bit(town.waits, k);
            case 5: return bit(town.done, k);
            case 6: return 10 + town.cheersOf(k);
            case 7: return town.paysOf(k);
            case 8: return town.will(k);
            case 9: return town.late(k);
            default: return BAD;
        }
    }

    public int change(int k, int what, int v) {
        if (!town.has(k) || v < 0) {
            return BAD;
        }
        switch (what) {
            case 1: return v > MOST_DUE ? BAD : replaced(town.due, k, v);
            case 2: return v >= GIFTS ? BAD : replaced(town.gift, k, v);
            case 3: return v >= STREETS ? BAD : replaced(town.place, k, v);
            case 4: return v > 1 ? BAD : markWaits(k, v);
            case 5: return v > 1 ? BAD : markDone(k, v);
            default: return BAD;
        }
    }

    private int markWaits(int k, int v) {
        int was = bit(town.waits, k);
        town.waits = withBit(town.waits, k, v);
        return was;
    }

    private int markDone(int k, int v) {
        int was = bit(town.done, k);
        town.done = withBit(town.done, k, v);
        return was;
    }

    public int remake(int k, int kind) {
        if (!town.has(k) || !isKind(kind)) {
            return BAD;
        }
        return replaced(town.kind, k, kind);
    }

    public int news(int hour, int v) {
        if (!within(hour, LAST_HOUR - 1) || !within(v, 15)) {
            return BAD;
        }
        return replaced(town.tidings, hour, v);
    }

    public int street(int f, int what, int v) {
        if (!within(f, STREETS - 1)) {
            return BAD;
        }
        if (what == 0 && within(v, MOST_SHIFT)) {
            return replaced(town.shifts, f, v);
        }
        if (what == 1 && within(v, MOST_BEAR)) {
            return replaced(town.bears, f, v);
        }
        return BAD;
    }

    public int streetOf(int f, int what) {
        if (!within(f, STREETS - 1) || !within(what, 1)) {
            return BAD;
        }
        return what == 0 ? town.shifts[f] : town.bears[f];
    }

    public int heart(int what, int v) {
        int was;
        if (what == 0 && within(v, MOST_MOOD)) {
            was = town.mood;
            town.mood = v;
        } else if (what == 1 && within(v, MOST_HANDS)) {
            was = town.hands;
            town.hands = v;
        } else {
            was = BAD;
        }
        return was;
    }

    public int ends(int v) {
        if (v < 1 || v > LAST_HOUR) {
            return BAD;
        }
        if (v < town.hour) {
            return STATE;
        }
        int was = town.end;
        town.end = v;
        return was;
    }

    public int anew() {
        int was = town.hour;
        town.startOver();
        return was;
    }

    public int state(int what) {
        switch (what) {
            case 0: return town.hour;
            case 1: return town.end;
            case 2: return town.score;
            case 3: return town.isOver() ? 1 : 0;
            case 4: return town.waits;
            case 5: return town.done;
            case 6: return town.hour < LAST_HOUR ? town.tidings[town.hour] : 0;
            case 7: return town.mood;
            case 8: return town.hands;
            default: return BAD;
        }
    }

    // ---- the rules

    public int feed(long eight, int n) {
        if (n < 1 || n > 8) {
            return BAD;
        }
        if (tapeSize + n > TAPE) {
            return FULL;
        }
        for (int i = 0; i < n; i++) {
            tape[tapeSize + i] = (byte) (eight >>> (8 * i));
        }
        tapeSize += n;
        return tapeSize;
    }

    public int rules() {
        reader.scan(tape, tapeSize);
        tapeSize = 0;
        if (!reader.readAll()) {
            return FAULT_BASE - reader.place;
        }
        town.rules.copyFrom(reader.made);
        return town.rules.count;
    }

    // ---- hours

    public int hour() {
        if (town.isOver()) {
            return STATE;
        }
        return scored(town.passAsInTheRest());
    }

    public int on(int n) {
        if (!within(n, LAST_HOUR)) {
            return BAD;
        }
        int then = town.moment();
        int hours = town.hoursOf(n);
        int worth = 0;
        for (int h = 0; h < hours; h++) {
            worth += town.passAsInTheRest();
        }
        town.recall(then);
        return worth;
    }

    public int when(int k) {
        if (!town.has(k)) {
            return BAD;
        }
        return bit(town.waits, k) == 0 ? NONE : town.hourOfLeaving(k);
    }

    public int giftFor(int k) {
        return town.has(k) ? mostWorthy(town.gift, k, GIFTS - 1) : BAD;
    }

    public int dueFor(int k) {
        return town.has(k) ? mostWorthy(town.due, k, MOST_DUE) : BAD;
    }

    private int mostWorthy(int[] what, int k, int most) {
        int was = what[k];
        int then = town.moment();
        int hours = town.hoursOf(LAST_HOUR);
        int found = 0;
        int foundWorth = -1;
        for (int v = 0; v <= most; v++) {
            what[k] = v;
            int worth = 0;
            for (int h = 0; h < hours; h++) {
                worth += town.passAsInTheRest();
            }
            town.recall(then);
            if (worth > foundWorth) {
                foundWorth = worth;
                found = v;
            }
        }
        what[k] = was;
        return found;
    }

    // ---- the sun and the clock, queues, errands

    public int shows(int v) {
        return within(v, MOST_HANDS) ? town.hourThatShows(v) : BAD;
    }

    public int right(int what) {
        if (!within(what, 1)) {
            return BAD;
        }
        int then = town.moment();
        int hours = town.hoursOf(LAST_HOUR);
        int rightHours = 0;
        int offAll = 0;
        for (int i = 0; i < hours; i++) {
            town.passAsInTheRest();
            int off = Math.abs(town.hands - 4 * town.hour);
            offAll += off;
            if (off == 0) {
                rightHours++;
            }
        }
        town.recall(then);
        return what == 0 ? rightHours : offAll;
    }

    public int queues(int what) {
        if (what == -1) {
            return countQueues();
        }
        return town.has(what) ? town.queueOf(what) : BAD;
    }

    private int countQueues() {
        int count = 0;
        int seen = 0;
        for (int k = 0; k < town.guilds; k++) {
            if (bit(town.waits, k) == 1 && bit(seen, k) == 0) {
                seen |= town.queueOf(k);
                count++;
            }
        }
        return count;
    }

    public int errands(int quarter, int what) {
        if (!within(quarter, MOST_HANDS) || !within(what, 1)) {
            return BAD;
        }
        int gone = town.everyGuild() & ~town.waits;
        int fewest = town.wayFrom(quarter, gone);
        return what == 0 ? fewest : firstErrand(quarter, gone, fewest);
    }

    private int firstErrand(int quarter, int gone, int fewest) {
        for (int k = 0; k < town.guilds; k++) {
            if (bit(gone, k) == 1) {
                int there = town.dueWithShift(k);
                if (Math.abs(there - quarter) + town.wayFrom(there, gone) == fewest) {
                    return k;
                }
            }
        }
        return NONE;
    }

    // ---- plans

    public int best(int n) {
        return within(n, PLAN) ? plans.search(town.hoursOf(n)) : BAD;
    }

    public int ith(int n, int i) {
        if (!within(n, PLAN) || !within(i, PLAN - 1)) {
            return BAD;
        }
        int hours = town.hoursOf(n);
        if (i >= hours) {
            return NONE;
        }
        plans.search(hours);
        return plans.acts[hours][i];
    }

    public int ways(int n) {
        if (!within(n, PLAN)) {
            return BAD;
        }
        int hours = town.hoursOf(n);
        plans.search(hours);
        return plans.found[hours];
    }

    public int charter(int n, int guilds) {
        if (!within(n, PLAN) || !within(guilds, town.everyGuild())) {
            return BAD;
        }
        int fewest = plans.fewestActs(town.hoursOf(n), guilds);
        return fewest > PLAN ? NONE : fewest;
    }

    public int bars(int n, int guilds) {
        if (!within(n, PLAN) || !within(guilds, town.everyGuild())) {
            return BAD;
        }
        int barred = guilds & ~plans.doneBySome(town.hoursOf(n));
        return barred == 0 ? NONE : Integer.numberOfTrailingZeros(barred);
    }

    // ---- a game, strangers, lots

    public int game(int n) {
        return n < 1 || n > PLAN ? BAD : plans.gameValue(town.hoursOf(n), true);
    }

    public int play(int n) {
        if (n < 1 || n > PLAN) {
            return BAD;
        }
        if (town.isOver()) {
            return NONE;
        }
        int hours = town.hoursOf(n);
        plans.gameValue(hours, true);
        return plans.acts[hours][0];
    }

    public int report(int k, int asked, int least, int most) {
        if (!within(k, 15) || !within(asked, 1) || least < 0 || most < least) {
            return BAD;
        }
        if (most > (asked == 0 ? MOST_HANDS : MOST_MOOD)) {
            return BAD;
        }
        if (town.reports >= REPORTS) {
            return FULL;
        }
        return town.noteReport(k, asked, least, most);
    }

    public int forget() {
        int was = town.reports;
        town.reports = 0;
        return was;
    }

    public int cause(int what) {
        if (!within(what, 3)) {
            return BAD;
        }
        int count = 0;
        int first = NONE;
        for (int stranger = 0; stranger < 5 * GIFTS * MOODS; stranger++) {
            if (town.wrongReports(stranger) == 0) {
                count++;
                if (first == NONE) {
                    first = stranger;
                }
                if (what != 0) {
                    break;
                }
            }
        }
        if (what == 0) {
            return count;
        }
        return first == NONE ? NONE : partOfStranger(first, what);
    }

    private static int partOfStranger(int stranger, int what) {
        switch (what) {
            case 1: return kindOfStranger(stranger);
            case 2: return giftOfStranger(stranger);
            default: return moodOfStranger(stranger);
        }
    }

    public int liar() {
        int alone = 0;
        for (int stranger = 0; stranger < 5 * GIFTS * MOODS; stranger++) {
            int wrong = town.wrongReports(stranger);
            if (wrong == 0) {
                return NONE;
            }
            if (Integer.bitCount(wrong) == 1) {
                alone |= wrong;
            }
        }
        return alone == 0 ? NONE : Integer.numberOfTrailingZeros(alone);
    }

    public int seed(int v) {
        int was = town.z;
        town.z = v;
        return was;
    }

    public int lot() {
        if (town.isOver()) {
            return STATE;
        }
        return scored(town.passByLot());
    }

    public int times(int n, int v) {
        if (n < 1 || n > 40 || !within(v, 999)) {
            return BAD;
        }
        int then = town.moment();
        int z = town.z;
        int hours = town.hoursOf(LAST_HOUR);
        int count = 0;
        for (int i = 0; i < n; i++) {
            int worth = 0;
            for (int h = 0; h < hours; h++) {
                worth += town.passByLot();
            }
            if (worth >= v) {
                count++;
            }
            town.recall(then);
        }
        town.z = z;
        return count;
    }

    // ---- rows

    public int prove(int n) {
        if (!within(n, PLAN)) {
            return BAD;
        }
        int then = town.moment();
        rowCount = town.hoursOf(n);
        plans.search(rowCount);
        for (int k = 0; k < rowCount; k++) {
            int told = plans.acts[rowCount][k];
            rows[k * ROW_PARTS] = told;
            rows[k * ROW_PARTS + 1] = town.pass(told);
            rows[k * ROW_PARTS + 2] = town.done;
        }
        town.recall(then);
        return rowCount;
    }

    public int row(int k, int what) {
        return isRowPart(k, what) ? rows[k * ROW_PARTS + what] : NO_ROW;
    }

    public int alterRow(int k, int what, int v) {
        return isRowPart(k, what) ? replaced(rows, k * ROW_PARTS + what, v) : NO_ROW;
    }

    private boolean isRowPart(int k, int what) {
        return k >= 0 && k < rowCount && within(what, ROW_PARTS - 1);
    }

    public int judge() {
        int then = town.moment();
        int wrong = 0;
        for (int k = 0; k < rowCount && wrong == 0; k++) {
            if (!isRight(k)) {
                wrong = k + 1;
            }
        }
        town.recall(then);
        return wrong;
    }

    private boolean isRight(int k) {
        int told = rows[k * ROW_PARTS];
        if (!town.isAct(told) || town.isOver()) {
            return false;
        }
        return town.pass(told) == rows[k * ROW_PARTS + 1] && town.done == rows[k * ROW_PARTS + 2];
    }

    // ---- the host

    public int sheet(int sheet, int sort, int n) {
        if (!within(sheet, SHEETS - 1) || sort < MISSING || sort >= SORTS) {
            return BAD;
        }
        if (sort == MISSING) {
            sheetSort[sheet] = MISSING;
            sheetSize[sheet] = 0;
            return 1;
        }
        if (n > CELLS) {
            return BAD;
        }
        if (n < 0) {
            return BELOW_ZERO;
        }
        sheetSort[sheet] = sort;
        sheetSize[sheet] = n;
        Arrays.fill(cells, sheet * CELLS, sheet * CELLS + CELLS, 0L);
        return 1;
    }

    public int write(int sheet, int i, int v) {
        if (!within(sheet, SHEETS - 1)) {
            return BAD;
        }
        if (sheetSort[sheet] == MISSING) {
            return NOTHING;
        }
        if (!hasItem(sheet, i)) {
            return OUTSIDE;
        }
        cells[sheet * CELLS + i] = narrowed(sheetSort[sheet], v);
        return 1;
    }

    private static long narrowed(int sort, int v) {
        switch (sort) {
            case BYTES: return (byte) v;
            case SHORTS: return (short) v;
            case INTS:
            case LONGS: return v;
            default: return v != 0 ? 1 : 0;
        }
    }

    public int item(int sheet, int sort, int i) {
        if (!within(sheet, SHEETS - 1) || !within(sort, SORTS - 1)) {
            return BAD;
        }
        int refusal = refusalAs(sheet, sort);
        if (refusal != 0) {
            return refusal;
        }
        return hasItem(sheet, i) ? (int) cells[sheet * CELLS + i] : OUTSIDE;
    }

    /** A missing row is of no sort, so it can't be of another one: -13 is never said of it. */
    private int refusalAs(int sheet, int sort) {
        if (sheetSort[sheet] == MISSING) {
            return NOTHING;
        }
        return sheetSort[sheet] == sort ? 0 : OTHER_SORT;
    }

    private boolean hasItem(int sheet, int i) {
        return i >= 0 && i < sheetSize[sheet];
    }

    public int goAll(int sheet, int i, int n) {
        if (!within(sheet, SHEETS - 1) || !within(n, MOST_ITEMS)) {
            return BAD;
        }
        int refusal = refusalAs(sheet, BYTES);
        if (refusal != 0) {
            return refusal;
        }
        int worth = 0;
        for (int j = 0; j < n; j++) {
            if (!hasItem(sheet, i + j)) {
                return OUTSIDE;
            }
            int told = (int) cells[sheet * CELLS + i + j];
            if (town.isAct(told) && !town.isOver()) {
                worth += scored(town.pass(told));
            }
        }
        return worth;
    }

    public int wouldBe(int sheet, int i, int n) {
        if (!within(sheet, SHEETS - 1) || !within(n, MOST_ITEMS)) {
            return BAD;
        }
        int refusal = refusalAs(sheet, BYTES);
        if (refusal != 0) {
            return refusal;
        }
        int then = town.moment();
        int answer = worthOfItems(sheet, i, n);
        town.recall(then);
        return answer;
    }

    private int worthOfItems(int sheet, int i, int n) {
        int worth = 0;
        for (int j = 0; j < n; j++) {
            if (!hasItem(sheet, i + j)) {
                return OUTSIDE;
            }
            int told = (int) cells[sheet * CELLS + i + j];
            if (!town.isAct(told) || town.isOver()) {
                return STATE;
            }
            worth += town.pass(told);
        }
        return worth;
    }

    public int shelf(int shelf, int what, int n) {
        if (!within(shelf, SHELVES - 1) || !within(what, 2)) {
            return BAD;
        }
        if (what == 0) {
            return town.has(n) ? put(shelf, HOLDS_GUILD, 0, n) : BAD;
        }
        if (what == 2) {
            return put(shelf, HOLDS_NOTHING, 0, 0);
        }
        if (!within(n, SHEETS - 1)) {
            return BAD;
        }
        if (sheetSort[n] == MISSING) {
            return put(shelf, HOLDS_NOTHING, 0, 0);
        }
        return put(shelf, HOLDS_ROW, sheetSort[n], sheetSize[n]);
    }

    /** Of a row only sort and size are ever asked, so these stand for the row itself, whatever its SHEET becomes. */
    private int put(int shelf, int holds, int sort, int number) {
        shelfHolds[shelf] = holds;
        shelfSort[shelf] = sort;
        shelfNumber[shelf] = number;
        return 1;
    }

    public int taken(int shelf, int as) {
        boolean asThing = within(as, 5);
        boolean asRow = as >= 10 && as < 10 + SORTS;
        if (!within(shelf, SHELVES - 1) || !asThing && !asRow) {
            return BAD;
        }
        boolean fits;
        if (shelfHolds[shelf] == HOLDS_ROW) {
            fits = asRow && shelfSort[shelf] == as - 10;
        } else if (holdsGuild(shelf)) {
            fits = asThing && Rules.isOrUnder(town.kind[shelfNumber[shelf]], as);
        } else {
            return NOTHING;
        }
        return fits ? shelfNumber[shelf] : OTHER_SORT;
    }

    private boolean holdsGuild(int shelf) {
        return shelfHolds[shelf] == HOLDS_GUILD && town.has(shelfNumber[shelf]);
    }

    public int act(int shelf, int act, int x) {
        voice.clear();
        if (!within(shelf, SHELVES - 1) || !within(act, 3) || !holdsGuild(shelf)) {
            return 0;
        }
        int k = shelfNumber[shelf];
        voice.number = k;
        voice.place = town.place[k];
        Guild nature = town.natures[town.kind[k]];
        int answer;
        switch (act) {
            case 0: answer = nature.knocks(voice, x); break;
            case 1: answer = nature.tells(voice, x); break;
            case 2: answer = nature.thanks(voice, x); break;
            default: answer = nature.deals(voice, x); break;
        }
        return voice.parted ? PARTED_BY_ZERO : answer;
    }

    public int trace(int i) {
        return i >= 0 && i < voice.size ? voice.bodies[i] : NONE;
    }

    public int many(int what) {
        switch (what) {
            case 0: return town.guilds;
            case 1: return town.rules.count;
            case 2: return Integer.bitCount(town.done);
            case 3: return town.reports;
            case 4: return rowCount;
            case 5: return tapeSize;
            case 6: return voice.size;
            default: return BAD;
        }
    }

    // ---- kept

    public int keep() {
        kept.copyFrom(town);
        anyKept = true;
        return 1;
    }

    public int again() {
        if (!anyKept) {
            return NONE;
        }
        town.copyFrom(kept);
        return town.guilds;
    }

    // ---- small helpers

    private int scored(int worth) {
        town.score += worth;
        return worth;
    }

    private static boolean within(int v, int most) {
        return v >= 0 && v <= most;
    }

    private static boolean isKind(int kind) {
        return kind >= 1 && kind <= 5;
    }

    private static int held(int v, int most) {
        return Math.max(0, Math.min(most, v));
    }

    private static int bit(int set, int k) {
        return (set >> k) & 1;
    }

    private static int withBit(int set, int k, int v) {
        return (set & ~(1 << k)) | (v << k);
    }

    private static int replaced(int[] in, int i, int v) {
        int was = in[i];
        in[i] = v;
        return was;
    }

    /** Strangers are numbered so that the least KIND, then GIFT, then MOOD comes first. */
    private static int kindOfStranger(int stranger) {
        return 1 + stranger / (GIFTS * MOODS);
    }

    private static int giftOfStranger(int stranger) {
        return stranger / MOODS % GIFTS;
    }

    private static int moodOfStranger(int stranger) {
        return stranger % MOODS;
    }

    /** All that is kept by keep(), and how an hour goes by in it. */
    private static final class Town {
        final Guild[] natures = new Guild[] {
            new Guild(), new Baker(), new Lawyer(), new Doctor(), new Book(), new Candle()
        };
        final Rules rules = new Rules();
        int hour;
        int end = 12;
        int score;
        int mood = 5;
        int hands;
        int waits;
        int done;
        int z = 1;
        final int[] tidings = new int[LAST_HOUR];
        final int[] shifts = new int[STREETS];
        final int[] bears = new int[STREETS];
        int guilds;
        final int[] kind = new int[GUILDS];
        final int[] due = new int[GUILDS];
        final int[] gift = new int[GUILDS];
        final int[] place = new int[GUILDS];
        int reports;
        final int[] told = new int[REPORTS * REPORT_PARTS];

        Town() {
            Arrays.fill(tidings, 4);
            Arrays.fill(bears, 3);
        }

        void copyFrom(Town from) {
            rules.copyFrom(from.rules);
            recall(from.moment());
            end = from.end;
            score = from.score;
            z = from.z;
            guilds = from.guilds;
            reports = from.reports;
            System.arraycopy(from.tidings, 0, tidings, 0, LAST_HOUR);
            System.arraycopy(from.shifts, 0, shifts, 0, STREETS);
            System.arraycopy(from.bears, 0, bears, 0, STREETS);
            System.arraycopy(from.kind, 0, kind, 0, GUILDS);
            System.arraycopy(from.due, 0, due, 0, GUILDS);
            System.arraycopy(from.gift, 0, gift, 0, GUILDS);
            System.arraycopy(from.place, 0, place, 0, GUILDS);
            System.arraycopy(from.told, 0, told, 0, REPORTS * REPORT_PARTS);
        }

        /** What an hour can change (but SCORE), in one number, so that what is asked can be tried and taken back. */
        int moment() {
            return hour << 23 | mood << 19 | hands << 12 | waits << 6 | done;
        }

        void recall(int moment) {
            hour = moment >>> 23;
            mood = moment >>> 19 & 15;
            hands = moment >>> 12 & 127;
            waits = moment >>> 6 & 63;
            done = moment & 63;
        }

        int settle(int itsKind, int itsDue, int itsGift, int itsPlace) {
            int k = guilds;
            kind[k] = itsKind;
            due[k] = itsDue;
            gift[k] = itsGift;
            place[k] = itsPlace;
            waits = withBit(waits, k, 1);
            guilds = k + 1;
            return k;
        }

        void startOver() {
            hour = 0;
            score = 0;
            mood = 5;
            hands = 0;
            waits = everyGuild();
            done = 0;
        }

        boolean has(int k) {
            return k >= 0 && k < guilds;
        }

        int everyGuild() {
            return (1 << guilds) - 1;
        }

        boolean isAct(int told) {
            return told >= 0 && told <= guilds;
        }

        boolean isOver() {
            return hour >= end;
        }

        int hoursOf(int n) {
            return Math.min(n, Math.max(0, end - hour));
        }

        int dueWithShift(int k) {
            return due[k] + shifts[place[k]];
        }

        int late(int k) {
            return Math.abs(hands - dueWithShift(k));
        }

        int cheersOf(int k) {
            return natures[kind[k]].cheers(gift[k], hour);
        }

        int paysOf(int k) {
            return natures[kind[k]].pays(k);
        }

        int will(int k) {
            rules.learn(hour, gift[k], late(k), mood, k);
            return rules.tell(kind[k]);
        }

        int pass(int told) {
            mood = moodByNews(hour, mood);
            int worth = has(told - 1) ? calls(told - 1) : 0;
            goOn();
            return worth;
        }

        int passAsInTheRest() {
            mood = moodByNews(hour, mood);
            int worth = 0;
            for (int k = 0; k < guilds; k++) {
                if (bit(waits, k) == 1 && isInTime(k)) {
                    worth = calls(k);
                    break;
                }
            }
            goOn();
            return worth;
        }

        int passByLot() {
            z = z * 1103515245 + 12345;
            return pass((z >>> 16) % (guilds + 1));
        }

        int moodByNews(int ofHour, int before) {
            if (ofHour < 0 || ofHour >= LAST_HOUR) {
                return before;
            }
            int force = tidings[ofHour] >> 2;
            switch (tidings[ofHour] & 3) {
                case 0: return held(before + force, MOST_MOOD);
                case 1: return held(before - force, MOST_MOOD);
                case 2: return before < 5 ? Math.min(5, before + force) : Math.max(5, before - force);
                default: return before;
            }
        }

        boolean isInTime(int k) {
            return late(k) <= bears[place[k]];
        }

        int calls(int k) {
            if (bit(waits, k) == 0) {
                return 0;
            }
            int its = will(k);
            if (its == WAIT) {
                return 0;
            }
            waits = withBit(waits, k, 0);
            if (its == LEAVE) {
                return 1;
            }
            mood = held(mood + cheersOf(k), MOST_MOOD);
            if (!isInTime(k)) {
                return 0;
            }
            done = withBit(done, k, 1);
            return paysOf(k) + Math.max(0, 9 - late(k));
        }

        void goOn() {
            hands = handsAfter(hands, mood);
            hour++;
        }

        static int handsAfter(int hands, int mood) {
            return Math.min(MOST_HANDS, hands + 6 - mood / 2);
        }

        int hourOfLeaving(int k) {
            int then = moment();
            int hours = hoursOf(LAST_HOUR);
            int found = NONE;
            for (int i = 0; i < hours && found == NONE; i++) {
                passAsInTheRest();
                if (bit(waits, k) == 0) {
                    found = hour - 1;
                }
            }
            recall(then);
            return found;
        }

        int hourThatShows(int v) {
            int then = moment();
            int hours = hoursOf(LAST_HOUR);
            int found = NONE;
            for (int i = 0; i < hours && found == NONE; i++) {
                pass(0);
                if (hands >= v) {
                    found = hour - 1;
                }
            }
            recall(then);
            return found;
        }

        /** GUILDS of k's QUEUE, as a set: it grows by one's neighbours until no more come, once a guild at most. */
        int queueOf(int k) {
            int queue = waits & (1 << k);
            for (int round = 0; round < guilds; round++) {
                for (int i = 0; i < guilds; i++) {
                    if (bit(queue, i) == 1) {
                        queue |= closeTo(i);
                    }
                }
            }
            return queue;
        }

        int closeTo(int k) {
            int close = 0;
            for (int i = 0; i < guilds; i++) {
                if (bit(waits, i) == 1 && Math.abs(dueWithShift(i) - dueWithShift(k)) <= 2) {
                    close |= 1 << i;
                }
            }
            return close;
        }

        /** On a line the shortest way to all goes to the nearer end first, then to the other. */
        int wayFrom(int quarter, int toAll) {
            int low = Integer.MAX_VALUE;
            int high = -1;
            for (int k = 0; k < guilds; k++) {
                if (bit(toAll, k) == 1) {
                    low = Math.min(low, dueWithShift(k));
                    high = Math.max(high, dueWithShift(k));
                }
            }
            if (high < 0) {
                return 0;
            }
            return high - low + Math.min(Math.abs(quarter - low), Math.abs(quarter - high));
        }

        int noteReport(int k, int asked, int least, int most) {
            int at = reports * REPORT_PARTS;
            told[at] = k;
            told[at + 1] = asked;
            told[at + 2] = least;
            told[at + 3] = most;
            reports++;
            return reports - 1;
        }

        /** REPORTS that aren't so by a stranger, as a set. */
        int wrongReports(int stranger) {
            Guild nature = natures[kindOfStranger(stranger)];
            int itsGift = giftOfStranger(stranger);
            int itsMood = moodOfStranger(stranger);
            int itsHands = 0;
            int last = lastHourReported();
            int wrong = wrongBehind(0, itsHands, itsMood);
            for (int h = 0; h < last; h++) {
                itsMood = moodByNews(h, itsMood);
                if (h % 2 == 0) {
                    itsMood = held(itsMood + nature.cheers(itsGift, h), MOST_MOOD);
                }
                itsHands = handsAfter(itsHands, itsMood);
                wrong |= wrongBehind(h + 1, itsHands, itsMood);
            }
            return wrong;
        }

        int lastHourReported() {
            int last = 0;
            for (int r = 0; r < reports; r++) {
                last = Math.max(last, told[r * REPORT_PARTS]);
            }
            return last;
        }

        int wrongBehind(int hours, int itsHands, int itsMood) {
            int wrong = 0;
            for (int r = 0; r < reports; r++) {
                int at = r * REPORT_PARTS;
                if (told[at] == hours) {
                    int seen = told[at + 1] == 0 ? itsHands : itsMood;
                    if (seen < told[at + 2] || seen > told[at + 3]) {
                        wrong |= 1 << r;
                    }
                }
            }
            return wrong;
        }
    }

    /** Searches over plans; each leaves the town as it found it. */
    private static final class Plans {
        private static final int TOO_MANY = 99;

        final Town town;
        /** By hours left: how many plans are best, and the acts that were found (play's act stands first there). */
        final int[] found = new int[PLAN + 1];
        final int[][] acts = new int[PLAN + 1][PLAN];

        Plans(Town town) {
            this.town = town;
        }

        /** An act that moves nobody leads where act 0 led, so its plans aren't walked again in any search here. */
        int search(int left) {
            if (left < 1 || left > PLAN) {
                found[0] = 1;
                return 0;
            }
            int then = town.moment();
            int most = -1;
            int idle = -1;
            int idleTotal = 0;
            int idleFound = 0;
            for (int told = 0; told <= town.guilds; told++) {
                int worth = town.pass(told);
                int after = town.moment();
                if (after == idle) {
                    found[left] += idleTotal == most ? idleFound : 0;
                } else {
                    int total = worth + search(left - 1);
                    if (total > most) {
                        most = total;
                        found[left] = 0;
                        noteBetter(left, told);
                    }
                    found[left] += total == most ? found[left - 1] : 0;
                    if (told == 0) {
                        idle = after;
                        idleTotal = total;
                        idleFound = found[left - 1];
                    }
                }
                town.recall(then);
            }
            return most;
        }

        void noteBetter(int left, int told) {
            acts[left][0] = told;
            System.arraycopy(acts[left - 1], 0, acts[left], 1, left - 1);
        }

        /** What is DONE stays so in hours, so a plan may be all 0 from where the wanted ones are. */
        int fewestActs(int left, int wanted) {
            if ((wanted & ~town.done) == 0) {
                return 0;
            }
            if (left < 1 || left > PLAN) {
                return TOO_MANY;
            }
            int then = town.moment();
            int fewest = TOO_MANY;
            int idle = -1;
            for (int told = 0; told <= town.guilds; told++) {
                town.pass(told);
                int after = town.moment();
                if (after != idle) {
                    fewest = Math.min(fewest, fewestActs(left - 1, wanted) + (told == 0 ? 0 : 1));
                }
                if (told == 0) {
                    idle = after;
                }
                town.recall(then);
            }
            return fewest;
        }

        /** GUILDS each of which is DONE behind some plan, as a set. */
        int doneBySome(int left) {
            if (left < 1 || left > PLAN) {
                return town.done;
            }
            int then = town.moment();
            int all = 0;
            int idle = -1;
            for (int told = 0; told <= town.guilds; told++) {
                town.pass(told);
                int after = town.moment();
                if (after != idle) {
                    all |= doneBySome(left - 1);
                }
                if (told == 0) {
                    idle = after;
                }
                town.recall(then);
            }
            return all;
        }

        int gameValue(int left, boolean wantsMost) {
            if (left < 1 || left > PLAN) {
                return 0;
            }
            int then = town.moment();
            int value = 0;
            int idle = -1;
            for (int told = 0; told <= town.guilds; told++) {
                int worth = town.pass(told);
                int after = town.moment();
                if (after != idle) {
                    int total = worth + gameValue(left - 1, !wantsMost);
                    if (told == 0 || (wantsMost ? total > value : total < value)) {
                        value = total;
                        acts[left][0] = told;
                    }
                }
                if (told == 0) {
                    idle = after;
                }
                town.recall(then);
            }
            return value;
        }
    }

    /** The rules as they were read: of each a kind, what it tells, and its condition, operands first. */
    private static final class Rules {
        static final int NOT = 0, AND = 1, OR = 2, LESS = 3, SAME = 4, MORE = 5;
        private static final int FACTS = 5;
        private static final int[] ABOVE = {-1, 0, 0, 2, 0, 4};

        int count;
        final int[] kinds = new int[RULES];
        final int[] doings = new int[RULES];
        final int[] ends = new int[RULES];
        /** No sign of the text makes more than one number here, so the tape's length is enough. */
        final int[] code = new int[TAPE];
        int size;
        final int[] facts = new int[FACTS];

        static boolean isOrUnder(int kind, int above) {
            int at = kind;
            for (int i = 0; i < 3 && at >= 0 && at < ABOVE.length; i++) {
                if (at == above) {
                    return true;
                }
                at = ABOVE[at];
            }
            return false;
        }

        void copyFrom(Rules from) {
            count = from.count;
            System.arraycopy(from.kinds, 0, kinds, 0, RULES);
            System.arraycopy(from.doings, 0, doings, 0, RULES);
            System.arraycopy(from.ends, 0, ends, 0, RULES);
            System.arraycopy(from.code, 0, code, 0, TAPE);
        }

        void clear() {
            count = 0;
            size = 0;
        }

        void emit(int v) {
            if (size < TAPE) {
                code[size] = v;
                size++;
            }
        }

        void close(int kind, int doing) {
            if (count < RULES) {
                kinds[count] = kind;
                doings[count] = doing;
                ends[count] = size;
                count++;
            }
        }

        void learn(int hour, int gift, int late, int mood, int number) {
            facts[0] = hour;
            facts[1] = gift;
            facts[2] = late;
            facts[3] = mood;
            facts[4] = number;
        }

        int tell(int kind) {
            int from = 0;
            for (int r = 0; r < count && r < RULES; r++) {
                if (isOrUnder(kind, kinds[r]) && holds(from, ends[r])) {
                    return doings[r];
                }
                from = ends[r];
            }
            return COME;
        }

        /** Truths are stacked as bits, the latest lowest; no condition at all holds. */
        boolean holds(int from, int to) {
            int stack = 1;
            for (int i = from; i < to && i < TAPE; i++) {
                int op = code[i];
                if (op == NOT) {
                    stack ^= 1;
                } else if (op == AND) {
                    stack = (stack >> 1) & (stack | ~1);
                } else if (op == OR) {
                    stack = (stack >> 1) | (stack & 1);
                } else if (i + 2 < TAPE) {
                    int left = valueOf(code[i + 1]);
                    int right = valueOf(code[i + 2]);
                    boolean so = op == LESS ? left < right : op == SAME ? left == right : left > right;
                    stack = stack << 1 | (so ? 1 : 0);
                    i += 2;
                }
            }
            return (stack & 1) == 1;
        }

        /** Numbers stand for themselves; the i-th fact is told as -1 - i. */
        int valueOf(int operand) {
            int fact = -1 - operand;
            return fact >= 0 && fact < FACTS ? facts[fact] : operand;
        }
    }

    /** Reads a text of rules; where it can't, place is the fault. */
    private static final class RuleReader {
        private static final int GUILD = 0, CANDLE = 5, COME_WORD = 6, LEAVE_WORD = 8;
        private static final int IF = 9, OR_WORD = 10, AND_WORD = 11, NOT_WORD = 12, HOUR = 13, NUMBER_WORD = 17;
        private static final int WORDS = 18, STRANGE = 18, NUMERAL = 19, END = 20, OTHER = 100;
        private static final int DIGITS = 4;

        final Rules made = new Rules();
        final int[] tokens = new int[TAPE];
        final int[] places = new int[TAPE];
        final int[] numbers = new int[TAPE];
        int tokenCount;
        int textSize;
        int at;
        /** The token that stands at hand, and where it began. */
        int token;
        int place;

        void scan(byte[] text, int size) {
            tokenCount = 0;
            textSize = size;
            int from = 0;
            while (from < size) {
                int to = from + 1;
                if (isLetter(text[from])) {
                    while (to < size && isLetter(text[to])) {
                        to++;
                    }
                    note(wordOf(text, from, to), from, 0);
                } else if (isDigit(text[from])) {
                    while (to < size && isDigit(text[to])) {
                        to++;
                    }
                    note(to - from > DIGITS ? STRANGE : NUMERAL, from, numberOf(text, from, to));
                } else if (text[from] != ' ') {
                    note(OTHER + (text[from] & 255), from, 0);
                }
                from = to;
            }
        }

        void note(int itsToken, int itsPlace, int itsNumber) {
            if (tokenCount < TAPE) {
                tokens[tokenCount] = itsToken;
                places[tokenCount] = itsPlace;
                numbers[tokenCount] = itsNumber;
                tokenCount++;
            }
        }

        static boolean isLetter(byte b) {
            return b >= 'a' && b <= 'z';
        }

        static boolean isDigit(byte b) {
            return b >= '0' && b <= '9';
        }

        static int numberOf(byte[] text, int from, int to) {
            int number = 0;
            for (int i = from; i < to && i < from + DIGITS; i++) {
                number = number * 10 + text[i] - '0';
            }
            return number;
        }

        static int wordOf(byte[] text, int from, int to) {
            for (int w = 0; w < WORDS; w++) {
                if (isWord(word(w), text, from, to)) {
                    return w;
                }
            }
            return STRANGE;
        }

        static boolean isWord(String word, byte[] text, int from, int to) {
            if (word.length() != to - from) {
                return false;
            }
            for (int i = from; i < to; i++) {
                if (word.charAt(i - from) != text[i]) {
                    return false;
                }
            }
            return true;
        }

        static String word(int w) {
            switch (w) {
                case 0: return "guild";
                case 1: return "baker";
                case 2: return "lawyer";
                case 3: return "doctor";
                case 4: return "book";
                case 5: return "candle";
                case 6: return "come";
                case 7: return "wait";
                case 8: return "leave";
                case 9: return "if";
                case 10: return "or";
                case 11: return "and";
                case 12: return "not";
                case 13: return "hour";
                case 14: return "gift";
                case 15: return "late";
                case 16: return "mood";
                default: return "number";
            }
        }

        boolean readAll() {
            made.clear();
            at = -1;
            advance();
            for (int r = 0; r < RULES && token != END; r++) {
                if (!readRule()) {
                    return false;
                }
            }
            return token == END;
        }

        void advance() {
            at++;
            boolean more = at >= 0 && at < tokenCount;
            token = more ? tokens[at] : END;
            place = more ? places[at] : textSize;
        }

        boolean readRule() {
            if (token < GUILD || token > CANDLE) {
                return false;
            }
            int kind = token;
            advance();
            if (token == IF) {
                advance();
                if (!readCondition(0)) {
                    return false;
                }
            }
            if (token < COME_WORD || token > LEAVE_WORD) {
                return false;
            }
            int doing = token - COME_WORD;
            advance();
            if (token != OTHER + ';') {
                return false;
            }
            advance();
            made.close(kind, doing);
            return true;
        }

        boolean readCondition(int open) {
            boolean more = true;
            for (int i = 0; i < TAPE && more; i++) {
                if (!readAlls(open)) {
                    return false;
                }
                if (i > 0) {
                    made.emit(Rules.OR);
                }
                more = token == OR_WORD;
                if (more) {
                    advance();
                }
            }
            return true;
        }

        boolean readAlls(int open) {
            boolean more = true;
            for (int i = 0; i < TAPE && more; i++) {
                if (!readOne(open)) {
                    return false;
                }
                if (i > 0) {
                    made.emit(Rules.AND);
                }
                more = token == AND_WORD;
                if (more) {
                    advance();
                }
            }
            return true;
        }

        boolean readOne(int open) {
            boolean not = false;
            for (int i = 0; i < TAPE && token == NOT_WORD; i++) {
                not = !not;
                advance();
            }
            boolean read = token == OTHER + '(' ? readInner(open) : readComparison();
            if (read && not) {
                made.emit(Rules.NOT);
            }
            return read;
        }

        boolean readInner(int open) {
            if (open >= OPEN) {
                return false;
            }
            advance();
            if (!readCondition(open + 1) || token != OTHER + ')') {
                return false;
            }
            advance();
            return true;
        }

        boolean readComparison() {
            if (!isOperand()) {
                return false;
            }
            int left = operand();
            advance();
            int sign = token == OTHER + '<' ? Rules.LESS : token == OTHER + '=' ? Rules.SAME : Rules.MORE;
            if (sign == Rules.MORE && token != OTHER + '>') {
                return false;
            }
            advance();
            if (!isOperand()) {
                return false;
            }
            made.emit(sign);
            made.emit(left);
            made.emit(operand());
            advance();
            return true;
        }

        boolean isOperand() {
            return token == NUMERAL || token >= HOUR && token <= NUMBER_WORD;
        }

        int operand() {
            if (token >= HOUR && token <= NUMBER_WORD) {
                return -1 - (token - HOUR);
            }
            return at >= 0 && at < tokenCount ? numbers[at] : 0;
        }
    }

    /** The thing that acts, and the bodies that have begun; once it parted by 0 no more begin. */
    private static final class Voice {
        int number;
        int place;
        boolean parted;
        final int[] bodies = new int[TRACE];
        int size;

        void clear() {
            parted = false;
            size = 0;
        }

        void begin(int body) {
            if (!parted && size < TRACE) {
                bodies[size] = body;
                size++;
            }
        }
    }

    /** What a kind does; it holds nothing itself, so that one of each is enough. */
    private static class Guild {
        int cheers(int gift, int hour) {
            return gift / 3;
        }

        int pays(int number) {
            return 4;
        }

        int knocks(Voice v, int x) {
            v.begin(10);
            return x * 3 - v.number;
        }

        int tells(Voice v, int x) {
            v.begin(11);
            return knocks(v, x) + 2 * v.place;
        }

        int thanks(Voice v, int x) {
            v.begin(12);
            int by = v.place - v.number;
            if (by == 0) {
                v.parted = true;
                return 0;
            }
            return x % by;
        }

        int deals(Voice v, int x) {
            v.begin(13);
            return tells(v, x) ^ thanks(v, x);
        }
    }

    private static final class Baker extends Guild {
        int cheers(int gift, int hour) {
            return 2 * super.cheers(gift, hour);
        }

        int pays(int number) {
            return super.pays(number) + 2;
        }

        int knocks(Voice v, int x) {
            v.begin(20);
            return super.knocks(v, x) - 3;
        }
    }

    private static class Lawyer extends Guild {
        int cheers(int gift, int hour) {
            return super.cheers(gift, hour) - 3;
        }

        int pays(int number) {
            return super.pays(number) + number;
        }

        int tells(Voice v, int x) {
            v.begin(30);
            return super.tells(v, x - v.number);
        }
    }

    private static final class Doctor extends Lawyer {
        int cheers(int gift, int hour) {
            return super.cheers(gift, hour) + (hour % 2 == 0 ? 4 : 0);
        }

        int pays(int number) {
            return 2 * super.pays(number);
        }

        int knocks(Voice v, int x) {
            v.begin(50);
            return super.knocks(v, x) ^ 9;
        }

        int deals(Voice v, int x) {
            v.begin(51);
            return super.deals(v, x) - tells(v, v.place);
        }
    }

    private static class Book extends Guild {
        int cheers(int gift, int hour) {
            return Math.min(2, super.cheers(gift, hour) + 1);
        }

        int pays(int number) {
            return super.pays(number) - 1;
        }

        int thanks(Voice v, int x) {
            v.begin(40);
            return 1 - super.thanks(v, x);
        }
    }

    private static final class Candle extends Book {
        int cheers(int gift, int hour) {
            return hour % 3 == 1 ? 0 : super.cheers(gift, hour);
        }

        int pays(int number) {
            return super.pays(number) / 2;
        }

        int tells(Voice v, int x) {
            v.begin(60);
            return super.tells(v, x) * v.number;
        }

        int thanks(Voice v, int x) {
            v.begin(61);
            return super.thanks(v, x) + knocks(v, v.place);
        }
    }
}
