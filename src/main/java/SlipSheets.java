import java.util.Arrays;

/**
 * A house for marks that move by the year over sheets that slip under ground.
 * What each call answers is told by the document, promise by promise; a call that
 * has a STATUS sets it last and touches nothing else where it refuses.
 */
public final class SlipSheets {
    public static final int NONE = -1;

    private static final int TRAYS = 4;
    private static final int TRAY_MOST = 60;
    private static final int SORTS = 4;
    private static final int YEARS = 20;
    private static final int LAST_DAY = 9999;
    private static final int CELLS_MOST = 6;
    private static final int MARKS_MOST = 8;
    private static final int SETS_OF_MARKS = 256;
    private static final int SLIP_MOST = 9;
    private static final int TOGETHER_MOST = 54;
    private static final int TAPE_MOST = 600;
    private static final int FEED_BYTES = 20;
    private static final int ROWS_MOST = 160;
    private static final int OFFSETS_MOST = 20;
    private static final int SHAKES_MOST = 30;
    private static final int VALUE_MOST = 2000;
    private static final int SPAN_MOST = 200;
    private static final int UNITS_MOST = 99;
    private static final int PURSE_MOST = 10000;
    private static final int COST_MOST = 1000;
    private static final int CLASSES_MOST = 8;
    private static final int FEW_MOST = 2000;

    private static final int FINE = 0;
    private static final int BAD_NUMBER = 1;
    private static final int TRAY_MISSING = 2;
    private static final int NO_PLACE = 3;
    private static final int ONE_TOO_MANY = 4;
    private static final int DAY_GONE = 5;
    private static final int NONE_SUCH = 6;
    private static final int UNLIKE_SORTS = 8;
    private static final int FAULTY = 9;

    private final Tray[] trays = new Tray[TRAYS];
    private final Reader reader = new Reader();
    private final Ledger ledger = new Ledger();
    private final Line lineThrough = new Line();
    private final Shakes shakes = new Shakes();
    private final Asked asked = new Asked();
    private final Walk walk = new Walk();
    private final Ranks ranks = new Ranks();
    private final Few fewest = new Few();
    private long fractionTop = 0;
    private long fractionBottom = 1;
    private Land ground = new Land();
    private int latestStatus = FINE;
    private int faultKind = NONE;
    private int faultPlace = NONE;
    private int smoothness = SLIP_MOST;
    private int netSet = NONE;
    private int netCost = NONE;

    public SlipSheets() {
        for (int i = 0; i < TRAYS; i++) {
            trays[i] = new Tray();
        }
    }

    public int status() {
        return latestStatus;
    }

    public long top() {
        return fractionTop;
    }

    public long bottom() {
        return fractionBottom;
    }

    // ---- TRAYS

    public boolean tray(int tray, int sort, int many) {
        if (!isTray(tray) || sort < 0 || sort >= SORTS || many < 0 || many > TRAY_MOST) {
            return deny(BAD_NUMBER);
        }
        trays[tray].lay(sort, many);
        return allow();
    }

    public boolean write(int tray, int place, long v) {
        int refusal = refusalOfPlace(tray, place);
        if (refusal != FINE) {
            return deny(refusal);
        }
        trays[tray].put(place, v);
        return allow();
    }

    public long read(int tray, int place) {
        int refusal = refusalOfPlace(tray, place);
        if (refusal != FINE) {
            return refuse(refusal);
        }
        latestStatus = FINE;
        return trays[tray].at(place);
    }

    public boolean pour(int from, int place, int to, int at, int many) {
        if (!isTray(from) || !isTray(to) || place < 0 || at < 0 || many < 0) {
            return deny(BAD_NUMBER);
        }
        Tray source = trays[from];
        Tray target = trays[to];
        if (source.isMissing() || target.isMissing()) {
            return deny(TRAY_MISSING);
        }
        if (source.sort != target.sort) {
            return deny(UNLIKE_SORTS);
        }
        if (!source.reaches(place, many) || !target.reaches(at, many)) {
            return deny(NO_PLACE);
        }
        System.arraycopy(source.numbers, place, target.numbers, at, many);
        return allow();
    }

    // ---- the LAND

    public int feed(int a, int b, int c, int d, int e) {
        if (!reader.hasRoom()) {
            return NONE;
        }
        reader.append(a);
        reader.append(b);
        reader.append(c);
        reader.append(d);
        reader.append(e);
        return reader.size;
    }

    public int land(int n) {
        if (n < 0 || n > reader.size) {
            return refuse(BAD_NUMBER);
        }
        int parts = reader.readParts(n);
        faultKind = reader.fault;
        faultPlace = reader.place;
        if (faultKind != 0) {
            return refuse(FAULTY);
        }
        ground = reader.trade(ground);
        ledger.clear();
        shakes.clear();
        return answer(parts);
    }

    public int fault(int what) {
        if (what == 0) {
            return faultKind;
        }
        return what == 1 ? faultPlace : NONE;
    }

    public int many(int what) {
        if (!isOneOf(what, 2)) {
            return refuse(BAD_NUMBER);
        }
        return answer(what == 0 ? ground.cells : ground.marks);
    }

    public int moves(int cell, int mark) {
        if (!isCell(cell) || !isMark(mark)) {
            return refuse(BAD_NUMBER);
        }
        return answer(ground.unit(cell, mark));
    }

    // ---- ROWS and LINES

    public boolean row(int mark, int year, int value, int span, int known) {
        if (!isMark(mark) || !isYear(year) || !isWithin(value, -VALUE_MOST, VALUE_MOST)
                || !isWithin(span, 0, SPAN_MOST) || !isDay(known)) {
            return deny(BAD_NUMBER);
        }
        if (ledger.rows >= ROWS_MOST) {
            return deny(ONE_TOO_MANY);
        }
        if (known < ledger.latestDay) {
            return deny(DAY_GONE);
        }
        ledger.addRow(mark, year, value, span, known);
        return allow();
    }

    public boolean offset(int mark, int year, int much) {
        if (!isMark(mark) || !isYear(year) || !isWithin(much, -VALUE_MOST, VALUE_MOST)) {
            return deny(BAD_NUMBER);
        }
        if (ledger.offsets >= OFFSETS_MOST) {
            return deny(ONE_TOO_MANY);
        }
        ledger.addOffset(mark, year, much);
        return allow();
    }

    public boolean asof(int day) {
        if (!isDay(day)) {
            return deny(BAD_NUMBER);
        }
        ledger.asOf = day;
        return allow();
    }

    public int value(int mark, int year, int what) {
        if (!isMark(mark) || !isYear(year) || !isOneOf(what, 2)) {
            return refuse(BAD_NUMBER);
        }
        ledger.gather(mark);
        if (!ledger.has[year]) {
            return refuse(NONE_SUCH);
        }
        return answer(what == 0 ? ledger.values[year] : ledger.spans[year]);
    }

    public int line(int mark, int from, int to, int what) {
        if (!isMark(mark) || !isYear(from) || !isYear(to) || from > to || !isOneOf(what, 2)) {
            return refuse(BAD_NUMBER);
        }
        ledger.gather(mark);
        ledger.fit(lineThrough, from, to);
        if (!lineThrough.stands()) {
            return refuse(NONE_SUCH);
        }
        if (what == 0) {
            return tell(lineThrough.tilt(), lineThrough.spread());
        }
        return tell(lineThrough.restTop(), lineThrough.restBottom());
    }

    public int breaks(int mark) {
        if (!isMark(mark)) {
            return refuse(BAD_NUMBER);
        }
        ledger.gather(mark);
        int year = ledger.breakYear(lineThrough);
        return year < 0 ? refuse(NONE_SUCH) : answer(year);
    }

    public int slow(int mark, int much, int k, int what) {
        if (!isMark(mark) || !isWithin(much, 2, 10) || k < 0 || !isOneOf(what, 3)) {
            return refuse(BAD_NUMBER);
        }
        ledger.gather(mark);
        int told = ledger.slowSlip(lineThrough, much, k, what);
        return told < 0 ? refuse(NONE_SUCH) : answer(told);
    }

    // ---- SLIPS

    public boolean smooth(int much) {
        if (!isWithin(much, 0, SLIP_MOST)) {
            return deny(BAD_NUMBER);
        }
        smoothness = much;
        return allow();
    }

    public int slips(int from, int to) {
        if (!areYears(from, to)) {
            return refuse(BAD_NUMBER);
        }
        if (ground.cells == 0) {
            return refuse(NONE_SUCH);
        }
        walkAll(from, to, 0, 0);
        return answer(walk.count);
    }

    public int ends(int from, int to, int cells, int what) {
        if (!areYears(from, to) || !isSetOfCells(cells) || !isOneOf(what, 2)) {
            return refuse(BAD_NUMBER);
        }
        walkAll(from, to, cells, 0);
        if (walk.count == 0) {
            return refuse(NONE_SUCH);
        }
        return answer(what == 0 ? walk.least : walk.most);
    }

    public int first(int from, int to, int cell) {
        if (!areYears(from, to) || !isCell(cell)) {
            return refuse(BAD_NUMBER);
        }
        asked.prepare(ground, ledger, from, to);
        if (!walk.finds(asked, asked.moved, smoothness)) {
            return refuse(NONE_SUCH);
        }
        return answer(walk.firstSlips[cell]);
    }

    public int corner(int from, int to) {
        if (!areYears(from, to)) {
            return refuse(BAD_NUMBER);
        }
        if (ground.cells == 0) {
            return refuse(NONE_SUCH);
        }
        asked.prepare(ground, ledger, from, to);
        for (int much = 0; much <= SLIP_MOST; much++) {
            if (walk.finds(asked, asked.moved, much)) {
                return answer(much);
            }
        }
        return refuse(NONE_SUCH);
    }

    public int quarrel(int from, int to, int what) {
        if (!areYears(from, to) || !isOneOf(what, 3)) {
            return refuse(BAD_NUMBER);
        }
        if (ground.cells == 0) {
            return refuse(NONE_SUCH);
        }
        asked.prepare(ground, ledger, from, to);
        walk.findQuarrel(asked, smoothness);
        if (walk.rivals == 0) {
            return refuse(NONE_SUCH);
        }
        if (what == 0) {
            return answer(walk.quarrelSize);
        }
        return answer(what == 1 ? walk.quarrelSet : walk.rivals);
    }

    public int without(int from, int to, int mark) {
        if (!areYears(from, to) || !isMark(mark)) {
            return refuse(BAD_NUMBER);
        }
        if (ground.cells == 0) {
            return refuse(NONE_SUCH);
        }
        asked.prepare(ground, ledger, from, to);
        int others = asked.moved & ~(1 << mark);
        return answer(walk.finds(asked, others, smoothness) ? 1 : 0);
    }

    public int rank(int marks, int what) {
        if (!isSetOfMarks(marks) || !isOneOf(what, 2)) {
            return refuse(BAD_NUMBER);
        }
        int found = ranks.of(ground, marks, NONE);
        return answer(what == 0 ? found : ground.cells - found);
    }

    public int apart(int cell, int marks) {
        if (!isCell(cell) || !isSetOfMarks(marks)) {
            return refuse(BAD_NUMBER);
        }
        int whole = ranks.of(ground, marks, NONE);
        return answer(ranks.of(ground, marks, cell) == whole - 1 ? 1 : 0);
    }

    public int odds(int from, int to, int cells, int least) {
        if (!areYears(from, to) || !isSetOfCells(cells) || !isWithin(least, 0, TOGETHER_MOST)) {
            return refuse(BAD_NUMBER);
        }
        walkAll(from, to, cells, least);
        if (walk.count == 0) {
            return refuse(NONE_SUCH);
        }
        return tell(walk.reached, walk.count);
    }

    // ---- SAVED, NET, FEW

    public boolean shake(int year, int cell, int units) {
        if (!isYear(year) || !isCell(cell) || !isWithin(units, 0, UNITS_MOST)) {
            return deny(BAD_NUMBER);
        }
        if (shakes.size >= SHAKES_MOST) {
            return deny(ONE_TOO_MANY);
        }
        shakes.add(year, cell, units);
        return allow();
    }

    public int saved(int cell, int year, int what) {
        if (!isCell(cell) || !isYear(year) || !isOneOf(what, 2)) {
            return refuse(BAD_NUMBER);
        }
        int hundredths = what == 0 ? ground.stuckLeast[cell] : ground.stuckMost[cell];
        long yearly = (long) ground.saves[cell] * hundredths;
        return tell(shakes.left(cell, year, yearly), Shakes.PARTS_OF_UNIT);
    }

    public int net(int tray, int purse) {
        if (!isTray(tray) || !isWithin(purse, 0, PURSE_MOST)) {
            return refuse(BAD_NUMBER);
        }
        Tray costs = trays[tray];
        if (costs.isMissing()) {
            return refuse(TRAY_MISSING);
        }
        if (costs.size < ground.marks) {
            return refuse(NO_PLACE);
        }
        if (!costs.allWithin(ground.marks, 0, COST_MOST)) {
            return refuse(BAD_NUMBER);
        }
        return answer(chooseNet(costs, purse));
    }

    public int netTold(int what) {
        if (!isOneOf(what, 2)) {
            return refuse(BAD_NUMBER);
        }
        if (netSet < 0) {
            return refuse(NONE_SUCH);
        }
        return answer(what == 0 ? netSet : netCost);
    }

    public int few(int tray, int many, int least, int most) {
        if (!isTray(tray) || !isWithin(many, 1, CLASSES_MOST) || !isWithin(least, 0, FEW_MOST)
                || !isWithin(most, 0, FEW_MOST) || most < least) {
            return refuse(BAD_NUMBER);
        }
        Tray classes = trays[tray];
        if (classes.isMissing()) {
            return refuse(TRAY_MISSING);
        }
        if (classes.size < many) {
            return refuse(NO_PLACE);
        }
        if (!classes.allWithin(many, 1, UNITS_MOST)) {
            return refuse(BAD_NUMBER);
        }
        int found = fewest.find(classes, many, least, most);
        return found < 0 ? refuse(NONE_SUCH) : answer(found);
    }

    public int fewOf(int k) {
        if (k < 0) {
            return refuse(BAD_NUMBER);
        }
        if (k >= fewest.toldClasses || k >= CLASSES_MOST) {
            return refuse(NONE_SUCH);
        }
        return answer(fewest.times[k]);
    }

    // ---- what the calls share

    private int answer(int told) {
        latestStatus = FINE;
        return told;
    }

    private boolean allow() {
        latestStatus = FINE;
        return true;
    }

    private int refuse(int why) {
        latestStatus = why;
        return NONE;
    }

    private boolean deny(int why) {
        latestStatus = why;
        return false;
    }

    /** The bottom comes in above 0, so that only the common divisor has to go. */
    private int tell(long above, long below) {
        long divisor = commonDivisor(Math.abs(above), below);
        if (divisor > 0) {
            fractionTop = above / divisor;
            fractionBottom = below / divisor;
        }
        return answer(Long.signum(fractionTop));
    }

    private static long commonDivisor(long one, long other) {
        long greater = one;
        long lesser = other;
        // numbers of 64 bits need fewer than a hundred steps
        for (int i = 0; i < 200 && lesser != 0; i++) {
            long rest = greater % lesser;
            greater = lesser;
            lesser = rest;
        }
        return greater;
    }

    private static boolean isWithin(int number, int least, int most) {
        return number >= least && number <= most;
    }

    private static boolean isOneOf(int what, int many) {
        return what >= 0 && what < many;
    }

    private static boolean isTray(int tray) {
        return isOneOf(tray, TRAYS);
    }

    private static boolean isYear(int year) {
        return isOneOf(year, YEARS);
    }

    private static boolean areYears(int from, int to) {
        return isYear(from) && isYear(to) && from < to;
    }

    private static boolean isDay(int day) {
        return isWithin(day, 0, LAST_DAY);
    }

    private boolean isCell(int cell) {
        return isOneOf(cell, ground.cells);
    }

    private boolean isMark(int mark) {
        return isOneOf(mark, ground.marks);
    }

    private boolean isSetOfCells(int set) {
        return isWithin(set, 1, (1 << ground.cells) - 1);
    }

    private boolean isSetOfMarks(int set) {
        return isOneOf(set, 1 << ground.marks);
    }

    private int refusalOfPlace(int tray, int place) {
        if (!isTray(tray)) {
            return BAD_NUMBER;
        }
        if (trays[tray].isMissing()) {
            return TRAY_MISSING;
        }
        return isOneOf(place, trays[tray].size) ? FINE : NO_PLACE;
    }

    private void walkAll(int from, int to, int cells, int least) {
        asked.prepare(ground, ledger, from, to);
        walk.all(asked, smoothness, cells, least);
    }

    /** Sets are tried from the least on, so that of equals the first tried stays. */
    private int chooseNet(Tray costs, int purse) {
        int seen = ledger.marksWithValues(ground.marks);
        int bestRank = NONE;
        int bestCost = 0;
        int bestSet = 0;
        for (int set = 0; set < 1 << ground.marks; set++) {
            int cost = costs.sumOf(set, ground.marks);
            if ((set & seen) != 0 || cost > purse) {
                continue;
            }
            int found = ranks.of(ground, set | seen, NONE);
            if (found > bestRank || (found == bestRank && cost < bestCost)) {
                bestRank = found;
                bestCost = cost;
                bestSet = set;
            }
        }
        netSet = bestSet;
        netCost = bestCost;
        return bestRank;
    }

    private static final class Tray {
        private final long[] numbers = new long[TRAY_MOST];
        private int sort = 0;
        private int size = NONE;

        private boolean isMissing() {
            return size < 0;
        }

        private void lay(int newSort, int newSize) {
            sort = newSort;
            size = newSize;
            Arrays.fill(numbers, 0L);
        }

        private boolean reaches(int place, int many) {
            return place <= size && many <= size - place;
        }

        private long at(int place) {
            return isOneOf(place, TRAY_MOST) ? numbers[place] : NONE;
        }

        private void put(int place, long v) {
            if (!isOneOf(place, TRAY_MOST)) {
                return;
            }
            if (sort == 0) {
                numbers[place] = (byte) v;
            } else if (sort == 1) {
                numbers[place] = (short) v;
            } else if (sort == 2) {
                numbers[place] = (int) v;
            } else {
                numbers[place] = v;
            }
        }

        private boolean allWithin(int many, int least, int most) {
            for (int i = 0; i < many; i++) {
                if (at(i) < least || at(i) > most) {
                    return false;
                }
            }
            return true;
        }

        private int sumOf(int set, int many) {
            int sum = 0;
            for (int i = 0; i < many; i++) {
                if ((set >> i & 1) != 0) {
                    sum += (int) at(i);
                }
            }
            return sum;
        }
    }

    /** What a LAND's text tells. */
    private static final class Land {
        private int cells;
        private int marks;
        private final int[] units = new int[CELLS_MOST * MARKS_MOST];
        private final int[] near = new int[CELLS_MOST];
        private final int[] saves = new int[CELLS_MOST];
        private final int[] stuckLeast = new int[CELLS_MOST];
        private final int[] stuckMost = new int[CELLS_MOST];

        private void clear() {
            cells = 0;
            marks = 0;
            Arrays.fill(units, 0);
            Arrays.fill(near, 0);
            Arrays.fill(saves, 0);
            Arrays.fill(stuckLeast, 100);
            Arrays.fill(stuckMost, 100);
        }

        private void addCells(int more, int savesOfEach) {
            for (int i = 0; i < more && cells < CELLS_MOST; i++) {
                saves[cells] = savesOfEach;
                cells++;
            }
        }

        private int unit(int cell, int mark) {
            return units[cell * MARKS_MOST + mark];
        }

        private boolean areNear(int one, int other) {
            return (near[one] >> other & 1) != 0;
        }
    }

    /**
     * The tape, and the LAND that is read from it: token by token, each looked at before
     * the one behind it is, so that the first FAULT that is met is the first along the text.
     */
    private static final class Reader {
        private static final int END = 0;
        private static final int WORD = 1;
        private static final int NUMBER = 2;
        private static final int SIGN = 3;
        private static final int NO_TOKEN = 4;
        private static final int NAME_MOST = 8;
        private static final int DIGITS_MOST = 4;
        private static final int DEPTH_MOST = 6;

        private final byte[] text = new byte[TAPE_MOST];
        private int size = 0;
        private int end = 0;
        private int kind = END;
        private int start = 0;
        private int stop = 0;
        private int number = 0;
        private int fault = 0;
        private int place = NONE;
        private Land draft = new Land();
        private final Names names = new Names();
        private long movesTold = 0;
        private int stuckTold = 0;

        private boolean hasRoom() {
            return size <= TAPE_MOST - FEED_BYTES;
        }

        private void append(int four) {
            for (int shift = 24; shift >= 0 && size < TAPE_MOST; shift -= 8) {
                text[size] = (byte) (four >> shift);
                size++;
            }
        }

        private Land trade(Land old) {
            Land taken = draft;
            draft = old;
            return taken;
        }

        private int readParts(int n) {
            end = n;
            size = 0;
            stop = 0;
            fault = 0;
            place = NONE;
            draft.clear();
            names.clear();
            movesTold = 0;
            stuckTold = 0;
            advance();
            int parts = 0;
            while (parts < TAPE_MOST && kind != END && readPart()) {
                parts++;
                advance();
            }
            return parts;
        }

        private boolean fail(int newFault, int where) {
            if (fault == 0) {
                fault = newFault;
                place = where;
            }
            return false;
        }

        // -- TOKENS

        private void advance() {
            start = stop;
            while (start < end && (text[start] == 10 || text[start] == 32)) {
                start++;
            }
            stop = start;
            if (start >= end) {
                kind = END;
            } else if (isLetter(text[start])) {
                kind = WORD;
                while (stop < end && isLetter(text[stop])) {
                    stop++;
                }
            } else if (isDigit(text[start])) {
                scanNumber();
            } else if (isSignByte(text[start])) {
                kind = SIGN;
                stop++;
            } else {
                kind = NO_TOKEN;
                fail(1, start);
            }
        }

        private void scanNumber() {
            kind = NUMBER;
            number = 0;
            while (stop < end && isDigit(text[stop])) {
                if (stop - start < DIGITS_MOST) {
                    number = number * 10 + text[stop] - '0';
                }
                stop++;
            }
            if (stop - start > DIGITS_MOST) {
                kind = NO_TOKEN;
                fail(1, start);
            }
        }

        private static boolean isLetter(int b) {
            return b >= 'a' && b <= 'z';
        }

        private static boolean isDigit(int b) {
            return b >= '0' && b <= '9';
        }

        private static boolean isSignByte(int b) {
            return b == ';' || b == '+' || b == '-' || b == '*' || b == '(' || b == ')';
        }

        private boolean isSign(char sign) {
            return kind == SIGN && start < TAPE_MOST && text[start] == sign;
        }

        private boolean isWord(String word) {
            if (kind != WORD || stop - start != word.length()) {
                return false;
            }
            for (int i = 0; i < word.length(); i++) {
                if (text[start + i] != word.charAt(i)) {
                    return false;
                }
            }
            return true;
        }

        private boolean isName() {
            return kind == WORD && stop - start <= NAME_MOST && !isWord("sheet") && !isWord("cells")
                    && !isWord("saves") && !isWord("mark") && !isWord("near") && !isWord("moves")
                    && !isWord("stuck") && !isWord("from") && !isWord("to");
        }

        // -- what may stand somewhere; the token is passed only where nothing more is asked of it

        private boolean passWord(String word) {
            if (!isWord(word)) {
                return fail(2, start);
            }
            advance();
            return true;
        }

        private boolean seesNumber(int least, int most) {
            if (kind != NUMBER) {
                return fail(2, start);
            }
            return isWithin(number, least, most) || fail(4, start);
        }

        private boolean seesEnd() {
            return isSign(';') || fail(2, start);
        }

        private boolean seesNewName() {
            if (!isName()) {
                return fail(2, start);
            }
            return names.find(text, start, stop) < 0 || fail(3, start);
        }

        /** Passes a SHEET's NAME and sees the NUMBER behind it: the CELL, or NONE with a FAULT. */
        private int seeCell() {
            if (!isName()) {
                fail(2, start);
                return NONE;
            }
            int sheet = names.find(text, start, stop);
            if (sheet < 0 || names.cellsOf[sheet] == 0) {
                fail(3, start);
                return NONE;
            }
            advance();
            return seesNumber(0, names.cellsOf[sheet] - 1) ? names.numbers[sheet] + number : NONE;
        }

        // -- PARTS

        /** Reads a PART up to its ; which is still the token that is seen. */
        private boolean readPart() {
            int begin = start;
            if (isWord("sheet")) {
                return readSheet();
            }
            if (isWord("mark")) {
                return readMark();
            }
            if (isWord("near")) {
                return readNear(begin);
            }
            if (isWord("moves")) {
                return readMoves(begin);
            }
            if (isWord("stuck")) {
                return readStuck(begin);
            }
            return fail(2, start);
        }

        private boolean readSheet() {
            advance();
            int nameStart = start;
            int nameStop = stop;
            if (!seesNewName()) {
                return false;
            }
            advance();
            if (!passWord("cells") || !seesNumber(1, CELLS_MOST)) {
                return false;
            }
            int more = number;
            if (draft.cells + more > CELLS_MOST) {
                return fail(6, start);
            }
            advance();
            if (!passWord("saves") || !seesNumber(0, 999)) {
                return false;
            }
            int saves = number;
            advance();
            if (!seesEnd()) {
                return false;
            }
            names.add(nameStart, nameStop, draft.cells, more);
            draft.addCells(more, saves);
            return true;
        }

        private boolean readMark() {
            advance();
            int nameStart = start;
            int nameStop = stop;
            if (!seesNewName()) {
                return false;
            }
            if (draft.marks >= MARKS_MOST) {
                return fail(6, start);
            }
            advance();
            if (!seesEnd()) {
                return false;
            }
            names.add(nameStart, nameStop, draft.marks, 0);
            draft.marks++;
            return true;
        }

        private boolean readNear(int begin) {
            advance();
            int one = seeCell();
            if (one < 0) {
                return false;
            }
            advance();
            int other = seeCell();
            if (other < 0) {
                return false;
            }
            if (other == one) {
                return fail(4, start);
            }
            advance();
            if (!seesEnd()) {
                return false;
            }
            if (draft.areNear(one, other)) {
                return fail(6, begin);
            }
            draft.near[one] |= 1 << other;
            draft.near[other] |= 1 << one;
            return true;
        }

        private boolean readMoves(int begin) {
            advance();
            int cell = seeCell();
            if (cell < 0) {
                return false;
            }
            advance();
            if (!isName()) {
                return fail(2, start);
            }
            int named = names.find(text, start, stop);
            if (named < 0 || names.cellsOf[named] > 0) {
                return fail(3, start);
            }
            int mark = names.numbers[named];
            advance();
            int sumStart = start;
            long sum = readSum(0);
            if (fault != 0 || !seesEnd()) {
                return false;
            }
            int pair = cell * MARKS_MOST + mark;
            if ((movesTold >> pair & 1) != 0) {
                return fail(6, begin);
            }
            if (sum < -9 || sum > 9) {
                return fail(5, sumStart);
            }
            movesTold |= 1L << pair;
            draft.units[pair] = (int) sum;
            return true;
        }

        private boolean readStuck(int begin) {
            advance();
            int cell = seeCell();
            if (cell < 0) {
                return false;
            }
            advance();
            if (!passWord("from") || !seesNumber(0, 100)) {
                return false;
            }
            int least = number;
            advance();
            if (!passWord("to") || !seesNumber(least, 100)) {
                return false;
            }
            int most = number;
            advance();
            if (!seesEnd()) {
                return false;
            }
            if ((stuckTold >> cell & 1) != 0) {
                return fail(6, begin);
            }
            stuckTold |= 1 << cell;
            draft.stuckLeast[cell] = least;
            draft.stuckMost[cell] = most;
            return true;
        }

        // -- SUMS; the depth counts the brackets and - ATOMs around

        private long readSum(int depth) {
            long sum = readItem(depth);
            for (int i = 0; i < TAPE_MOST && fault == 0 && (isSign('+') || isSign('-')); i++) {
                boolean less = isSign('-');
                advance();
                long item = readItem(depth);
                sum = less ? sum - item : sum + item;
            }
            return sum;
        }

        private long readItem(int depth) {
            long item = readAtom(depth);
            for (int i = 0; i < TAPE_MOST && fault == 0 && isSign('*'); i++) {
                advance();
                item *= readAtom(depth);
            }
            return item;
        }

        private long readAtom(int depth) {
            boolean less = isSign('-');
            if (kind == NUMBER) {
                long atom = number;
                advance();
                return atom;
            }
            if (!less && !isSign('(')) {
                fail(2, start);
                return 0;
            }
            if (depth >= DEPTH_MOST) {
                fail(5, start);
                return 0;
            }
            advance();
            if (less) {
                return -readAtom(depth + 1);
            }
            long inside = readSum(depth + 1);
            if (!isSign(')')) {
                fail(2, start);
                return 0;
            }
            advance();
            return inside;
        }
    }

    /** The NAMES told so far, each by where it stands in the text. */
    private static final class Names {
        private static final int NAMES_MOST = CELLS_MOST + MARKS_MOST;

        private final int[] starts = new int[NAMES_MOST];
        private final int[] stops = new int[NAMES_MOST];
        /** A SHEET's first CELL, or the MARK's own number. */
        private final int[] numbers = new int[NAMES_MOST];
        /** How many CELLS a SHEET has; a MARK has 0. */
        private final int[] cellsOf = new int[NAMES_MOST];
        private int size = 0;

        private void clear() {
            size = 0;
        }

        private void add(int start, int stop, int number, int cells) {
            if (size < NAMES_MOST) {
                starts[size] = start;
                stops[size] = stop;
                numbers[size] = number;
                cellsOf[size] = cells;
                size++;
            }
        }

        private int find(byte[] text, int start, int stop) {
            for (int i = 0; i < size; i++) {
                if (stops[i] - starts[i] == stop - start && areAlike(text, starts[i], start, stop - start)) {
                    return i;
                }
            }
            return NONE;
        }

        private static boolean areAlike(byte[] text, int one, int other, int length) {
            for (int i = 0; i < length; i++) {
                if (text[one + i] != text[other + i]) {
                    return false;
                }
            }
            return true;
        }
    }

    /** ROWS and OFFSETS as told, and the VALUES of one MARK as they count AS OF the DAY. */
    private static final class Ledger {
        private final int[] rowMark = new int[ROWS_MOST];
        private final int[] rowYear = new int[ROWS_MOST];
        private final int[] rowValue = new int[ROWS_MOST];
        private final int[] rowSpan = new int[ROWS_MOST];
        private final int[] rowKnown = new int[ROWS_MOST];
        private int rows = 0;
        private final int[] offsetMark = new int[OFFSETS_MOST];
        private final int[] offsetYear = new int[OFFSETS_MOST];
        private final int[] offsetMuch = new int[OFFSETS_MOST];
        private int offsets = 0;
        private int latestDay = 0;
        private int asOf = LAST_DAY;
        private final boolean[] has = new boolean[YEARS];
        private final int[] values = new int[YEARS];
        private final int[] spans = new int[YEARS];

        /** DAYS outlive a LAND. */
        private void clear() {
            rows = 0;
            offsets = 0;
        }

        private void addRow(int mark, int year, int value, int span, int known) {
            if (rows < ROWS_MOST) {
                rowMark[rows] = mark;
                rowYear[rows] = year;
                rowValue[rows] = value;
                rowSpan[rows] = span;
                rowKnown[rows] = known;
                rows++;
                latestDay = known;
            }
        }

        private void addOffset(int mark, int year, int much) {
            if (offsets < OFFSETS_MOST) {
                offsetMark[offsets] = mark;
                offsetYear[offsets] = year;
                offsetMuch[offsets] = much;
                offsets++;
            }
        }

        private boolean counts(int row, int mark) {
            return rowMark[row] == mark && rowKnown[row] <= asOf;
        }

        private void gather(int mark) {
            for (int year = 0; year < YEARS; year++) {
                has[year] = false;
            }
            for (int i = 0; i < rows; i++) {
                if (counts(i, mark)) {
                    int year = rowYear[i];
                    has[year] = true;
                    values[year] = rowValue[i];
                    spans[year] = rowSpan[i];
                }
            }
            for (int i = 0; i < offsets; i++) {
                for (int year = offsetYear[i]; year < YEARS && offsetMark[i] == mark; year++) {
                    values[year] -= offsetMuch[i];
                }
            }
        }

        private int marksWithValues(int marks) {
            int set = 0;
            for (int mark = 0; mark < marks; mark++) {
                for (int i = 0; i < rows; i++) {
                    if (counts(i, mark)) {
                        set |= 1 << mark;
                    }
                }
            }
            return set;
        }

        private void fit(Line line, int from, int to) {
            line.clear();
            for (int year = Math.max(from, 0); year <= to && year < YEARS; year++) {
                if (has[year]) {
                    line.add(year, values[year]);
                }
            }
        }

        /** A YEAR needs no VALUE of its own to be a BREAK. */
        private int breakYear(Line line) {
            int best = NONE;
            long bestRest = 0;
            for (int year = 0; year < YEARS; year++) {
                fit(line, 0, year - 1);
                boolean ahead = line.stands();
                long rest = line.wholeRest();
                fit(line, year, YEARS - 1);
                rest += line.wholeRest();
                if (ahead && line.stands() && (best < 0 || rest < bestRest)) {
                    best = year;
                    bestRest = rest;
                }
            }
            return best;
        }

        private int sideOf(Line line, int year) {
            if (year >= YEARS) {
                return 0;
            }
            long above = line.scaledAbove(year, values[year]);
            long span = line.scaled(spans[year]);
            if (above > span) {
                return 1;
            }
            return above < -span ? -1 : 0;
        }

        /** The YEAR behind the last ends the run that may still stand there. */
        private int slowSlip(Line line, int much, int k, int what) {
            fit(line, 0, YEARS - 1);
            if (!line.stands()) {
                return NONE;
            }
            int found = 0;
            int side = 0;
            int length = 0;
            int begin = 0;
            int last = 0;
            for (int year = 0; year <= YEARS; year++) {
                if (year < YEARS && !has[year]) {
                    continue;
                }
                int now = sideOf(line, year);
                if (now != side) {
                    boolean isSlow = side != 0 && length >= much;
                    if (isSlow && found == k) {
                        return toldOfSlow(begin, last, side, what);
                    }
                    found += isSlow ? 1 : 0;
                    side = now;
                    begin = year;
                    length = 0;
                }
                length++;
                last = year;
            }
            return NONE;
        }

        private static int toldOfSlow(int begin, int last, int side, int what) {
            if (what == 0) {
                return begin;
            }
            if (what == 1) {
                return last;
            }
            return side > 0 ? 1 : 0;
        }
    }

    /** A LINE by least squares in whole numbers: all parts stay below 10,000,000,000,000,000. */
    private static final class Line {
        private long n = 0;
        private long sumX = 0;
        private long sumY = 0;
        private long sumXX = 0;
        private long sumXY = 0;
        private long sumYY = 0;

        private void clear() {
            n = 0;
            sumX = 0;
            sumY = 0;
            sumXX = 0;
            sumXY = 0;
            sumYY = 0;
        }

        private void add(long x, long y) {
            n++;
            sumX += x;
            sumY += y;
            sumXX += x * x;
            sumXY += x * y;
            sumYY += y * y;
        }

        private boolean stands() {
            return n >= 2;
        }

        private long spread() {
            return n * sumXX - sumX * sumX;
        }

        private long tilt() {
            return n * sumXY - sumX * sumY;
        }

        private long restTop() {
            return (n * sumYY - sumY * sumY) * spread() - tilt() * tilt();
        }

        private long restBottom() {
            return n * spread();
        }

        private long wholeRest() {
            long bottom = restBottom();
            return bottom > 0 ? restTop() / bottom : 0;
        }

        private long scaled(long number) {
            return number * restBottom();
        }

        /** How far a point lies above the LINE, scaled too. */
        private long scaledAbove(long x, long y) {
            return scaled(y) - spread() * sumY - tilt() * (n * x - sumX);
        }
    }

    /** What is asked of SLIPS between two YEARS, and the numbers that a search has put so far. */
    private static final class Asked {
        private int cells = 0;
        private int marks = 0;
        private int moved = 0;
        private final int[] units = new int[CELLS_MOST * MARKS_MOST];
        private final int[] near = new int[CELLS_MOST];
        private final int[] low = new int[MARKS_MOST];
        private final int[] high = new int[MARKS_MOST];
        private final int[] restLeast = new int[(CELLS_MOST + 1) * MARKS_MOST];
        private final int[] restMost = new int[(CELLS_MOST + 1) * MARKS_MOST];
        private final int[] slips = new int[CELLS_MOST];
        private final int[] sums = new int[(CELLS_MOST + 1) * MARKS_MOST];

        private void prepare(Land land, Ledger ledger, int from, int to) {
            cells = land.cells;
            marks = land.marks;
            moved = 0;
            for (int mark = 0; mark < marks; mark++) {
                ledger.gather(mark);
                if (ledger.has[from] && ledger.has[to]) {
                    int difference = ledger.values[to] - ledger.values[from];
                    int span = ledger.spans[from] + ledger.spans[to];
                    moved |= 1 << mark;
                    low[mark] = difference - span;
                    high[mark] = difference + span;
                }
            }
            System.arraycopy(land.units, 0, units, 0, units.length);
            System.arraycopy(land.near, 0, near, 0, near.length);
            boundRests();
        }

        /** By CELL and MARK: the least and the most that this CELL and those behind it can move it. */
        private void boundRests() {
            Arrays.fill(restLeast, 0);
            Arrays.fill(restMost, 0);
            for (int at = cells * MARKS_MOST - 1; at >= 0; at--) {
                int most = units[at] * SLIP_MOST;
                restLeast[at] = restLeast[at + MARKS_MOST] + Math.min(most, 0);
                restMost[at] = restMost[at + MARKS_MOST] + Math.max(most, 0);
            }
        }

        private void put(int cell, int number) {
            slips[cell] = number;
            int at = cell * MARKS_MOST;
            for (int mark = 0; mark < marks; mark++) {
                sums[at + MARKS_MOST + mark] = sums[at + mark] + number * units[at + mark];
            }
        }

        private int leastBeside(int cell, int smooth) {
            int least = 0;
            for (int other = 0; other < cell; other++) {
                if ((near[cell] >> other & 1) != 0) {
                    least = Math.max(least, slips[other] - smooth);
                }
            }
            return least;
        }

        private int mostBeside(int cell, int smooth) {
            int most = SLIP_MOST;
            for (int other = 0; other < cell; other++) {
                if ((near[cell] >> other & 1) != 0) {
                    most = Math.min(most, slips[other] + smooth);
                }
            }
            return most;
        }

        /** Of a set of MARKS those that this CELL and those behind it can still bring out of what they MOVED. */
        private int stillOpen(int cell, int set) {
            int open = 0;
            for (int mark = 0; mark < marks; mark++) {
                int at = cell * MARKS_MOST + mark;
                if ((set >> mark & 1) != 0
                        && (sums[at] + restLeast[at] < low[mark] || sums[at] + restMost[at] > high[mark])) {
                    open |= 1 << mark;
                }
            }
            return open;
        }

        /** Of a set of MARKS those that can still come within what they MOVED. */
        private int stillWithin(int cell, int set) {
            int within = 0;
            for (int mark = 0; mark < marks; mark++) {
                int at = cell * MARKS_MOST + mark;
                if ((set >> mark & 1) != 0
                        && sums[at] + restMost[at] >= low[mark] && sums[at] + restLeast[at] <= high[mark]) {
                    within |= 1 << mark;
                }
            }
            return within;
        }
    }

    /** Goes through all SLIPS, CELL 0 first and lesser numbers first, so that the first met is the first. */
    private static final class Walk {
        private static final int SUMS = TOGETHER_MOST + 1;

        private int smooth = SLIP_MOST;
        private int set = 0;
        private int need = 0;
        private boolean once = false;
        private int count = 0;
        private int reached = 0;
        private int least = 0;
        private int most = 0;
        private final int[] firstSlips = new int[CELLS_MOST];
        private final int[] from = new int[CELLS_MOST];
        private final int[] to = new int[CELLS_MOST];
        /** By how many CELLS and what sum: how many rows of numbers 0 to 9 come to that sum at least. */
        private final int[] reaching = new int[(CELLS_MOST + 1) * SUMS];
        private final boolean[] met = new boolean[SETS_OF_MARKS];
        private int quarrelSize = 0;
        private int quarrelSet = 0;
        private int rivals = 0;

        private Walk() {
            reaching[0] = 1;
            for (int at = SUMS; at < reaching.length; at++) {
                int sum = at % SUMS;
                for (int number = 0; number <= SLIP_MOST && number <= sum; number++) {
                    reaching[at] += reaching[at - SUMS - number];
                }
            }
            for (int at = reaching.length - 2; at >= 0; at--) {
                if (at % SUMS != TOGETHER_MOST) {
                    reaching[at] += reaching[at + 1];
                }
            }
        }

        private void all(Asked asked, int newSmooth, int newSet, int newNeed) {
            begin(newSmooth, newSet, newNeed);
            once = false;
            visit(asked, 0, asked.moved, 0);
        }

        private boolean finds(Asked asked, int marks, int newSmooth) {
            begin(newSmooth, 0, 0);
            once = true;
            visit(asked, 0, marks, 0);
            return count > 0;
        }

        private void begin(int newSmooth, int newSet, int newNeed) {
            smooth = newSmooth;
            set = newSet;
            need = newNeed;
            count = 0;
            reached = 0;
        }

        private void visit(Asked asked, int cell, int marks, int together) {
            if (cell >= asked.cells || cell >= CELLS_MOST) {
                return;
            }
            int open = asked.stillOpen(cell, marks);
            if (open == 0 && isLoose(asked, cell)) {
                takeAnyFrom(asked, cell, together);
                return;
            }
            narrow(asked, cell, open);
            if (from[cell] > to[cell]) {
                return;
            }
            if (cell == asked.cells - 1) {
                takeLast(asked, cell, together);
                return;
            }
            int last = to[cell];
            for (int number = from[cell]; number <= last && !(once && count > 0); number++) {
                asked.put(cell, number);
                visit(asked, cell + 1, open, together + number * (set >> cell & 1));
            }
        }

        /** Whether no CELL from this one on is held by one beside it. */
        private boolean isLoose(Asked asked, int cell) {
            if (smooth >= SLIP_MOST) {
                return true;
            }
            for (int other = cell; other < asked.cells; other++) {
                if (asked.near[other] != 0) {
                    return false;
                }
            }
            return true;
        }

        /** For the last CELL the bounds are exact: each number within them makes SLIPS. */
        private void narrow(Asked asked, int cell, int open) {
            from[cell] = asked.leastBeside(cell, smooth);
            to[cell] = asked.mostBeside(cell, smooth);
            for (int mark = 0; mark < asked.marks; mark++) {
                if ((open >> mark & 1) != 0) {
                    int at = cell * MARKS_MOST + mark;
                    int behind = at + MARKS_MOST;
                    narrowBy(cell, asked.units[at], asked.low[mark] - asked.sums[at] - asked.restMost[behind],
                            asked.high[mark] - asked.sums[at] - asked.restLeast[behind]);
                }
            }
        }

        private void narrowBy(int cell, int unit, int low, int high) {
            if (unit > 0) {
                from[cell] = Math.max(from[cell], -Math.floorDiv(-low, unit));
                to[cell] = Math.min(to[cell], Math.floorDiv(high, unit));
            } else if (unit < 0) {
                from[cell] = Math.max(from[cell], -Math.floorDiv(high, -unit));
                to[cell] = Math.min(to[cell], Math.floorDiv(-low, -unit));
            } else if (low > 0 || high < 0) {
                to[cell] = NONE;
            }
        }

        private void takeLast(Asked asked, int cell, int together) {
            int isIn = set >> cell & 1;
            int many = to[cell] - from[cell] + 1;
            asked.put(cell, from[cell]);
            noteFirst(asked);
            noteEnds(together + from[cell] * isIn, together + to[cell] * isIn);
            count += many;
            if (isIn != 0) {
                reached += Math.max(0, to[cell] - Math.max(from[cell], need - together) + 1);
            } else if (together >= need) {
                reached += many;
            }
        }

        /** All CELLS from this one on can be anything: they are counted without going through them. */
        private void takeAnyFrom(Asked asked, int cell, int together) {
            int inSet = Integer.bitCount(set >> cell);
            int outside = asked.cells - cell - inSet;
            for (int other = cell; other < asked.cells; other++) {
                asked.slips[other] = 0;
            }
            noteFirst(asked);
            noteEnds(together, together + SLIP_MOST * inSet);
            count += waysToReach(asked.cells - cell, 0);
            reached += waysToReach(inSet, need - together) * waysToReach(outside, 0);
        }

        private int waysToReach(int cells, int sum) {
            if (!isOneOf(cells, CELLS_MOST + 1) || sum > TOGETHER_MOST) {
                return 0;
            }
            return reaching[cells * SUMS + Math.max(sum, 0)];
        }

        private void noteFirst(Asked asked) {
            if (count == 0) {
                System.arraycopy(asked.slips, 0, firstSlips, 0, CELLS_MOST);
            }
        }

        /** Called ahead of counting, as the first SLIPS begin both ENDS. */
        private void noteEnds(int lesser, int greater) {
            least = count == 0 ? lesser : Math.min(least, lesser);
            most = count == 0 ? greater : Math.max(most, greater);
        }

        /** One search for all sets of MARKS, as SLIPS for a set are SLIPS for each part of it. */
        private void findQuarrel(Asked asked, int newSmooth) {
            smooth = newSmooth;
            for (int marks = 0; marks < SETS_OF_MARKS; marks++) {
                met[marks] = false;
            }
            visitSets(asked, 0, asked.moved);
            quarrelSize = MARKS_MOST + 1;
            rivals = 0;
            for (int marks = 0; marks < SETS_OF_MARKS; marks++) {
                if ((marks & ~asked.moved) == 0 && !met[marks]) {
                    noteUnmet(marks);
                }
            }
        }

        private void noteUnmet(int marks) {
            int size = Integer.bitCount(marks);
            if (size < quarrelSize) {
                quarrelSize = size;
                quarrelSet = marks;
                rivals = 0;
            }
            if (size == quarrelSize) {
                rivals++;
            }
        }

        private void visitSets(Asked asked, int cell, int marks) {
            int within = asked.stillWithin(cell, marks);
            if (met[within]) {
                return;
            }
            if (cell >= asked.cells || cell >= CELLS_MOST) {
                noteMet(within);
                return;
            }
            int last = asked.mostBeside(cell, smooth);
            for (int number = asked.leastBeside(cell, smooth); number <= last; number++) {
                asked.put(cell, number);
                visitSets(asked, cell + 1, within);
            }
        }

        private void noteMet(int within) {
            for (int marks = 0; marks < SETS_OF_MARKS; marks++) {
                if ((marks & ~within) == 0) {
                    met[marks] = true;
                }
            }
        }
    }

    /** RANK by elimination without fractions: each number is a minor, below 200,000,000. */
    private static final class Ranks {
        private final long[] table = new long[MARKS_MOST * CELLS_MOST];

        private int of(Land land, int marks, int cellLeftOut) {
            int rows = fill(land, marks, cellLeftOut);
            long before = 1;
            int rank = 0;
            for (int column = 0; column < CELLS_MOST && rank < rows; column++) {
                int pivotRow = rowWithout0(column, rank, rows);
                if (pivotRow < 0) {
                    continue;
                }
                swapRows(rank, pivotRow);
                for (int row = rank + 1; row < rows; row++) {
                    eliminate(rank, row, column, before);
                }
                before = table[rank * CELLS_MOST + column];
                rank++;
            }
            return rank;
        }

        private int fill(Land land, int marks, int cellLeftOut) {
            int rows = 0;
            for (int mark = 0; mark < MARKS_MOST; mark++) {
                if ((marks >> mark & 1) == 0) {
                    continue;
                }
                for (int cell = 0; cell < CELLS_MOST; cell++) {
                    table[rows * CELLS_MOST + cell] = cell == cellLeftOut ? 0 : land.unit(cell, mark);
                }
                rows++;
            }
            return rows;
        }

        private int rowWithout0(int column, int from, int rows) {
            for (int row = from; row < rows; row++) {
                if (table[row * CELLS_MOST + column] != 0) {
                    return row;
                }
            }
            return NONE;
        }

        private void swapRows(int one, int other) {
            for (int column = 0; column < CELLS_MOST; column++) {
                long kept = table[one * CELLS_MOST + column];
                table[one * CELLS_MOST + column] = table[other * CELLS_MOST + column];
                table[other * CELLS_MOST + column] = kept;
            }
        }

        /** The pivot before divides without rest. */
        private void eliminate(int pivotRow, int row, int column, long before) {
            long pivot = table[pivotRow * CELLS_MOST + column];
            long head = table[row * CELLS_MOST + column];
            for (int k = column; k < CELLS_MOST && before != 0; k++) {
                int at = row * CELLS_MOST + k;
                table[at] = (table[at] * pivot - table[pivotRow * CELLS_MOST + k] * head) / before;
            }
        }
    }

    private static final class Shakes {
        private static final long PARTS_OF_UNIT = 10000;

        private final int[] years = new int[SHAKES_MOST];
        private final int[] cells = new int[SHAKES_MOST];
        private final int[] units = new int[SHAKES_MOST];
        private int size = 0;

        private void clear() {
            size = 0;
        }

        private void add(int year, int cell, int much) {
            if (size < SHAKES_MOST) {
                years[size] = year;
                cells[size] = cell;
                units[size] = much;
                size++;
            }
        }

        /** What is left in a CELL at the end of a YEAR, in parts of a unit. */
        private long left(int cell, int lastYear, long yearly) {
            long there = 0;
            for (int year = 0; year <= lastYear; year++) {
                there += yearly;
                for (int i = 0; i < size; i++) {
                    if (years[i] == year && cells[i] == cell) {
                        there -= Math.min(there, units[i] * PARTS_OF_UNIT);
                    }
                }
            }
            return there;
        }
    }

    private static final class Few {
        private static final int NEVER = 1000000;

        private final int[] units = new int[CLASSES_MOST];
        private final int[] times = new int[CLASSES_MOST];
        private final int[] fewest = new int[FEW_MOST + 1];
        private int toldClasses = 0;

        private int find(Tray tray, int many, int least, int most) {
            for (int i = 0; i < many && i < CLASSES_MOST; i++) {
                units[i] = (int) tray.at(i);
            }
            countFewest(0, many, most);
            int total = least;
            for (int sum = least; sum <= most && sum <= FEW_MOST; sum++) {
                if (fewest[sum] < fewest[total]) {
                    total = sum;
                }
            }
            int found = fewest[total];
            if (found >= NEVER) {
                return NONE;
            }
            share(many, total, found);
            toldClasses = many;
            return found;
        }

        /** By sum up to the most: the fewest SHAKES of the classes from one on that let go just that. */
        private void countFewest(int from, int many, int most) {
            Arrays.fill(fewest, NEVER);
            fewest[0] = 0;
            for (int i = from; i < many && i < CLASSES_MOST; i++) {
                for (int sum = Math.max(units[i], 0); sum <= most && sum <= FEW_MOST; sum++) {
                    fewest[sum] = Math.min(fewest[sum], fewest[sum - units[i]] + 1);
                }
            }
        }

        /** Each class as seldom as the classes behind it can still make up for. */
        private void share(int many, int total, int found) {
            int sum = total;
            int left = found;
            for (int i = 0; i < many && i < CLASSES_MOST; i++) {
                countFewest(i + 1, many, sum);
                int time = 0;
                while (time < left && sum >= units[i] && fewest[sum] != left - time) {
                    sum -= units[i];
                    time++;
                }
                times[i] = time;
                left -= time;
            }
        }
    }
}
