/** What the document says of ROWS, OFFSETS and AS OF: promises 14 to 17. */
final class RowWords {
    private static final int LEAST_INT = Integer.MIN_VALUE;
    private static final int MOST_INT = Integer.MAX_VALUE;

    private RowWords() {
    }

    static void tell(Book book) {
        rows(book);
        days(book);
        offsets(book);
        asOf(book);
        calls(book);
    }

    private static void land(Run r) {
        r.land("sheet a cells 1 saves 0;mark b;mark c;moves a 0 b 1;", 4);
    }

    private static void rows(Book book) {
        book.says("ROWS, at most 160", r -> {
            land(r);
            for (int i = 0; i < 160; i++) {
                r.call(0, "row", i % 2, i / 2 % 20, i, 0, 0);
                if (i % 40 == 0) {
                    r.call(1, "row", 0, 20, 0, 0, 0);
                }
            }
            r.call(4, "row", 0, 0, 1, 1, 0);
            r.call(4, "row", 1, 19, 1, 1, 9999);
            r.is("the 160th ROW", r.x.value(1, 19, 0), 159);
            r.is("the 121st", r.x.value(0, 0, 0), 120);
        }).sees("class SlipSheets", "ROWS_MOST = 160", "ROWS_MOST = 159")
            .sees("class SlipSheets", "ROWS_MOST = 160", "ROWS_MOST = 161")
            .sees("public boolean row", "ledger.rows >= ROWS_MOST", "ledger.rows > ROWS_MOST");

        book.says("where it stands (-2,000 to 2,000)", r -> {
            land(r);
            r.call(0, "row", 0, 0, 2000, 0, 0);
            r.is("the most", r.x.value(0, 0, 0), 2000);
            r.call(0, "row", 0, 0, -2000, 0, 0);
            r.is("the least", r.x.value(0, 0, 0), -2000);
            for (int value : new int[] {LEAST_INT, -2001, 2001, MOST_INT}) {
                r.call(1, "row", 0, 0, value, 0, 0);
            }
            r.is("it stays", r.x.value(0, 0, 0), -2000);
        }).sees("public boolean row", "!isWithin(value, -VALUE_MOST, VALUE_MOST)", "!isWithin(value, -VALUE_MOST, VALUE_MOST + 1)")
            .sees("public boolean row", "!isWithin(value, -VALUE_MOST, VALUE_MOST)", "!isWithin(value, -VALUE_MOST - 1, VALUE_MOST)")
            .sees("public boolean row", "!isWithin(value, -VALUE_MOST, VALUE_MOST)", "!isWithin(value, -VALUE_MOST + 1, VALUE_MOST)")
            .sees("public boolean row", "!isWithin(value, -VALUE_MOST, VALUE_MOST)", "!isWithin(value, -VALUE_MOST, VALUE_MOST - 1)")
            .sees("public boolean row", "!isWithin(value, -VALUE_MOST, VALUE_MOST)", "Math.abs(value) > VALUE_MOST");

        book.says("and a SPAN (0 to 200)", r -> {
            land(r);
            r.call(0, "row", 0, 0, 5, 0, 0);
            r.is("the least", r.x.value(0, 0, 1), 0);
            r.call(0, "row", 0, 0, 5, 200, 0);
            r.is("the most", r.x.value(0, 0, 1), 200);
            for (int span : new int[] {LEAST_INT, -1, 201, MOST_INT}) {
                r.call(1, "row", 0, 0, 6, span, 0);
            }
            r.is("it stays", r.x.value(0, 0, 1), 200);
            r.is("the VALUE, too", r.x.value(0, 0, 0), 5);
        }).sees("public boolean row", "!isWithin(span, 0, SPAN_MOST)", "!isWithin(span, 1, SPAN_MOST)")
            .sees("public boolean row", "!isWithin(span, 0, SPAN_MOST)", "!isWithin(span, -1, SPAN_MOST)")
            .sees("public boolean row", "!isWithin(span, 0, SPAN_MOST)", "!isWithin(span, 0, SPAN_MOST + 1)")
            .sees("public boolean row", "!isWithin(span, 0, SPAN_MOST)", "!isWithin(span, 0, SPAN_MOST - 1)");

        book.says("YEARS are 0 to 19", r -> {
            land(r);
            r.call(0, "row", 0, 0, 5, 0, 0);
            r.call(0, "row", 0, 19, 6, 0, 0);
            r.is("YEAR 0", r.x.value(0, 0, 0), 5);
            r.is("YEAR 19", r.x.value(0, 19, 0), 6);
            r.call(0, "offset", 0, 19, 1);
            r.call(0, "shake", 19, 0, 1);
            r.call(0, "saved", 0, 19, 0);
            r.call(0, "slips", 0, 19);
            r.call(0, "line", 0, 0, 19, 0);
            for (int year : new int[] {LEAST_INT, -1, 20, MOST_INT}) {
                r.call(1, "row", 0, year, 5, 0, 0);
                r.call(1, "offset", 0, year, 5);
                r.call(1, "value", 0, year, 0);
                r.call(1, "shake", year, 0, 1);
                r.call(1, "saved", 0, year, 0);
            }
        }).sees("class SlipSheets", "YEARS = 20", "YEARS = 19")
            .sees("class SlipSheets", "YEARS = 20", "YEARS = 21")
            .sees("private static boolean isYear", "isOneOf(year, YEARS)", "year < YEARS");

        book.says("DAYS 0 to 9,999.", r -> {
            land(r);
            r.call(1, "row", 0, 0, 5, 0, -1);
            r.call(1, "row", 0, 0, 5, 0, LEAST_INT);
            r.call(0, "row", 0, 0, 5, 0, 0);
            r.call(1, "row", 0, 0, 5, 0, 10000);
            r.call(1, "row", 0, 0, 5, 0, MOST_INT);
            r.call(0, "row", 0, 0, 6, 0, 9999);
            for (int day : new int[] {LEAST_INT, -1, 10000, MOST_INT}) {
                r.call(1, "asof", day);
            }
            r.is("KNOWN on the last DAY", r.x.value(0, 0, 0), 6);
            r.call(0, "asof", 0);
            r.is("KNOWN on the first DAY", r.x.value(0, 0, 0), 5);
            r.call(0, "asof", 9999);
            r.is("KNOWN on the last DAY", r.x.value(0, 0, 0), 6);
        }).sees("private static boolean isDay", "isWithin(day, 0, LAST_DAY)", "isWithin(day, 1, LAST_DAY)")
            .sees("private static boolean isDay", "isWithin(day, 0, LAST_DAY)", "isWithin(day, -1, LAST_DAY)")
            .sees("class SlipSheets", "LAST_DAY = 9999", "LAST_DAY = 9998")
            .sees("class SlipSheets", "LAST_DAY = 9999", "LAST_DAY = 10000");
    }

    private static void days(Book book) {
        book.says("KNOWN on a DAY (these never go back).", r -> {
            land(r);
            r.call(0, "row", 0, 0, 1, 0, 0);
            r.call(0, "row", 0, 0, 2, 0, 0);
            r.call(0, "row", 1, 5, 3, 0, 50);
            r.call(5, "row", 0, 0, 4, 0, 49);
            r.call(5, "row", 0, 0, 4, 0, 0);
            r.call(0, "row", 0, 0, 5, 0, 50);
            r.call(1, "row", 0, 0, 2001, 0, 90);
            r.call(0, "row", 0, 0, 6, 0, 51);
            r.call(0, "asof", 9000);
            r.call(0, "row", 0, 0, 7, 0, 51);
            r.is("told latest", r.x.value(0, 0, 0), 7);
            r.call(0, "row", 0, 0, 8, 0, 9999);
            r.call(5, "row", 0, 0, 8, 0, 9998);
            r.call(0, "row", 0, 0, 9, 0, 9999);
        }).sees("public boolean row", "known < ledger.latestDay", "known <= ledger.latestDay")
            .sees("public boolean row", "known < ledger.latestDay", "known < ledger.latestDay - 1")
            .sees("private void addRow", "latestDay = known;", "")
            .sees("public boolean row", "return deny(DAY_GONE);", "return deny(NONE_SUCH);")
            .sees("public boolean asof", "ledger.asOf = day;", "ledger.asOf = day; ledger.latestDay = day;");
    }

    private static void offsets(Book book) {
        book.says("OFFSETS, at most 20", r -> {
            land(r);
            r.call(0, "row", 0, 3, 0, 0, 0);
            for (int i = 0; i < 20; i++) {
                r.call(0, "offset", 0, 3, -1);
                r.call(1, "offset", 0, 20, -1);
            }
            r.call(4, "offset", 0, 3, -1);
            r.call(4, "offset", 1, 0, 0);
            r.is("all twenty", r.x.value(0, 3, 0), 20);
        }).sees("class SlipSheets", "OFFSETS_MOST = 20", "OFFSETS_MOST = 19")
            .sees("class SlipSheets", "OFFSETS_MOST = 20", "OFFSETS_MOST = 21")
            .sees("public boolean offset", "ledger.offsets >= OFFSETS_MOST", "ledger.offsets > OFFSETS_MOST");

        book.says("of a MARK, from a YEAR on its ROWS are so much too great (-2,000 to 2,000; below 0: too small), by a new instrument.", r -> {
            land(r);
            r.rows(0, 0, 0, 1, 19, 1);
            r.rows(1, 0, 19, 1);
            r.call(0, "offset", 0, 0, 2000);
            r.is("too great", r.x.value(0, 0, 0), -1999);
            r.is("not of another MARK", r.x.value(1, 19, 0), 1);
            r.call(0, "offset", 0, 19, -2000);
            r.is("too small again", r.x.value(0, 19, 0), 1);
            r.call(0, "offset", 1, 0, 0);
            r.is("by nothing", r.x.value(1, 19, 0), 1);
            r.call(0, "offset", 1, 19, 6);
            r.is("of the other MARK", r.x.value(1, 19, 0), -5);
            r.is("of that alone", r.x.value(0, 19, 0), 1);
            for (int much : new int[] {LEAST_INT, -2001, 2001, MOST_INT}) {
                r.call(1, "offset", 0, 0, much);
            }
            r.is("it stays", r.x.value(0, 0, 0), -1999);
        }).sees("public boolean offset", "!isWithin(much, -VALUE_MOST, VALUE_MOST)", "!isWithin(much, -VALUE_MOST, VALUE_MOST + 1)")
            .sees("public boolean offset", "!isWithin(much, -VALUE_MOST, VALUE_MOST)", "!isWithin(much, -VALUE_MOST - 1, VALUE_MOST)")
            .sees("public boolean offset", "!isWithin(much, -VALUE_MOST, VALUE_MOST)", "!isWithin(much, -VALUE_MOST, VALUE_MOST - 1)")
            .sees("public boolean offset", "!isWithin(much, -VALUE_MOST, VALUE_MOST)", "!isWithin(much, 1 - VALUE_MOST, VALUE_MOST)")
            .sees("private void gather", "&& offsetMark[i] == mark", "")
            .sees("private void addOffset", "offsetMark[offsets] = mark;", "")
            .sees("private void gather", "-= offsetMuch[i]", "+= offsetMuch[i]");
    }

    private static void asOf(Book book) {
        book.says("AS OF a DAY (9,999 at first) of a MARK and a YEAR that ROW counts that was told latest of those KNOWN by then", r -> {
            land(r);
            r.call(0, "row", 0, 5, 1, 1, 3);
            r.call(0, "row", 0, 5, 2, 2, 5);
            r.call(0, "row", 0, 5, 3, 3, 5);
            r.call(0, "row", 0, 4, 8, 8, 5);
            r.call(0, "row", 1, 5, 9, 9, 5);
            r.call(0, "row", 0, 5, 4, 4, 9999);
            r.is("9,999 at first", r.x.value(0, 5, 0), 4);
            int[][] due = {{0, 0}, {2, 0}, {3, 1}, {4, 1}, {5, 3}, {6, 3}, {9998, 3}, {9999, 4}};
            for (int[] dayAndRow : due) {
                r.call(0, "asof", dayAndRow[0]);
                if (dayAndRow[1] == 0) {
                    r.call(6, "value", 0, 5, 0);
                    r.call(6, "value", 0, 5, 1);
                } else {
                    r.is("value as of " + dayAndRow[0], r.x.value(0, 5, 0), dayAndRow[1]);
                    r.is("span as of " + dayAndRow[0], r.x.value(0, 5, 1), dayAndRow[1]);
                }
            }
        }).sees("class Ledger", "asOf = LAST_DAY", "asOf = LAST_DAY - 1")
            .sees("private boolean counts", "rowKnown[row] <= asOf", "rowKnown[row] < asOf")
            .sees("private boolean counts", "rowKnown[row] <= asOf", "rowKnown[row] <= asOf + 1")
            .sees("private void gather", "if (counts(i, mark)) {", "if (counts(i, mark) && !has[rowYear[i]]) {")
            .sees("private boolean counts", "rowMark[row] == mark &&", "");

        book.says("its VALUE is where the MARK stands less all OFFSETS of it from that YEAR or an earlier one.", r -> {
            land(r);
            r.rows(0, 0, 4, 10, 5, 10, 6, 10);
            r.call(0, "offset", 0, 5, 3);
            r.is("the YEAR ahead", r.x.value(0, 4, 0), 10);
            r.is("that YEAR", r.x.value(0, 5, 0), 7);
            r.is("the YEAR behind", r.x.value(0, 6, 0), 7);
            r.call(0, "offset", 0, 6, 4);
            r.call(0, "offset", 0, 0, -5);
            r.call(0, "offset", 0, 5, 3);
            r.is("one of them", r.x.value(0, 4, 0), 15);
            r.is("three of them", r.x.value(0, 5, 0), 9);
            r.is("all of them", r.x.value(0, 6, 0), 5);
            r.call(0, "row", 0, 6, -2000, 7, 1);
            r.is("a ROW told later, too", r.x.value(0, 6, 0), -2005);
            r.is("its SPAN is as told", r.x.value(0, 6, 1), 7);
            r.call(0, "asof", 0);
            r.is("OFFSETS of all DAYS", r.x.value(0, 6, 0), 5);
            for (int i = 0; i < 16; i++) {
                r.call(0, "offset", 0, 0, -2000);
            }
            r.is("beyond 2,000", r.x.value(0, 6, 0), 32005);
        }).sees("private void gather", "int year = offsetYear[i];", "int year = offsetYear[i] + 1;")
            .sees("private void gather", "year < YEARS && offsetMark", "year < offsetYear[i] + 1 && offsetMark")
            .sees("private void gather", "i < offsets", "i < offsets && i < 1");
    }

    private static void calls(Book book) {
        book.says("`boolean row(int mark, int year, int value, int span, int known)`: A ROW (1, 4, 5).", r -> {
            r.call(1, "row", 0, 0, 0, 0, 0);
            land(r);
            r.call(0, "row", 0, 0, 0, 0, 9);
            r.call(5, "row", 0, 0, 0, 0, 8);
            r.call(1, "row", 2, 0, 0, 0, 8);
            r.call(1, "row", -1, 0, 0, 0, 9);
            for (int i = 1; i < 160; i++) {
                r.call(0, "row", 0, 0, i, 0, 9);
            }
            r.call(4, "row", 0, 0, 0, 0, 9);
            r.call(4, "row", 0, 0, 0, 0, 8);
            r.call(1, "row", 0, 0, 0, 201, 8);
            r.call(1, "row", 0, 0, 0, 0, 10000);
        }).sees("public boolean row", "if (ledger.rows >= ROWS_MOST) { return deny(ONE_TOO_MANY); } if (known < ledger.latestDay) { return deny(DAY_GONE); }",
                "if (known < ledger.latestDay) { return deny(DAY_GONE); } if (ledger.rows >= ROWS_MOST) { return deny(ONE_TOO_MANY); }")
            .sees("public boolean row", "!isMark(mark) ||", "mark >= MARKS_MOST ||")
            .sees("public boolean row", "if (!isMark(mark)", "if (ledger.rows >= ROWS_MOST) { return deny(ONE_TOO_MANY); } if (!isMark(mark)");

        book.says("`boolean offset(int mark, int year, int much)`: An OFFSET (1, 4).", r -> {
            r.call(1, "offset", 0, 0, 0);
            land(r);
            r.call(1, "offset", 2, 0, 0);
            r.call(1, "offset", -1, 0, 0);
            for (int i = 0; i < 20; i++) {
                r.call(0, "offset", 1, 0, 0);
            }
            r.call(4, "offset", 1, 0, 0);
            r.call(1, "offset", 1, 0, 2001);
            r.call(1, "offset", 2, 0, 0);
            r.call(1, "offset", 1, -1, 0);
        }).sees("public boolean offset", "!isMark(mark) ||", "mark >= MARKS_MOST ||")
            .sees("public boolean offset", "if (!isMark(mark)", "if (ledger.offsets >= OFFSETS_MOST) { return deny(ONE_TOO_MANY); } if (!isMark(mark)");

        book.says("`boolean asof(int day)`: AS OF (1).", r -> {
            r.call(0, "asof", 0);
            r.call(1, "asof", -1);
            r.call(1, "asof", 10000);
            land(r);
            r.call(0, "row", 0, 0, 5, 0, 1);
            r.call(6, "value", 0, 0, 0);
            r.call(0, "asof", 1);
            r.call(1, "asof", LEAST_INT);
            r.call(1, "asof", MOST_INT);
            r.is("AS OF 1", r.x.value(0, 0, 0), 5);
        }).sees("public boolean asof", "if (!isDay(day)) {", "if (!isDay(day)) { ledger.asOf = 0;")
            .sees("public boolean asof", "!isDay(day)", "day > LAST_DAY")
            .sees("public boolean asof", "!isDay(day)", "day < 0");

        book.says("`int value(int mark, int year, int what)`: VALUE of a MARK in a YEAR (what 0; STATUS tells NONE from -1), its SPAN (1) (1, 6).", r -> {
            r.call(1, "value", 0, 0, 0);
            land(r);
            r.call(6, "value", 0, 0, 0);
            r.call(6, "value", 0, 0, 1);
            r.call(0, "row", 0, 0, -1, 0, 0);
            r.is("-1", r.x.value(0, 0, 0), -1);
            r.is("0", r.x.value(0, 0, 1), 0);
            r.call(6, "value", 0, 1, 0);
            r.call(6, "value", 1, 0, 0);
            r.call(1, "value", 2, 0, 0);
            r.call(1, "value", -1, 0, 0);
            for (int what : new int[] {LEAST_INT, -1, 2, MOST_INT}) {
                r.call(1, "value", 0, 0, what);
                r.call(1, "value", 0, 1, what);
            }
        }).sees("public int value", "isOneOf(what, 2)", "isOneOf(what, 3)")
            .sees("public int value", "!isOneOf(what, 2)", "what > 1")
            .sees("public int value", "return refuse(NONE_SUCH);", "return answer(NONE);")
            .sees("public int value", "if (!ledger.has[year])", "if (!ledger.has[year] || ledger.values[year] == NONE)")
            .sees("public int value", "!isMark(mark) ||", "mark < 0 ||");
    }
}
