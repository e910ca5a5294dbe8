/** What the document says of SHAKES, of what is SAVED and of FRACTIONS: promises 2 to 4, 31 and 32. */
final class SavedWords {
    private static final int LEAST_INT = Integer.MIN_VALUE;
    private static final int MOST_INT = Integer.MAX_VALUE;
    private static final String LAND = "sheet a cells 2 saves 150;sheet b cells 1 saves 999;stuck a 1 from 0 to 50;stuck b 0 from 33 to 67;";

    private SavedWords() {
    }

    static void tell(Book book) {
        shakes(book);
        shakeCall(book);
        saved(book);
        savedCall(book);
        fractions(book);
    }

    private static void shakes(Book book) {
        book.says("SHAKES, at most 30", r -> {
            r.land(LAND, 4);
            for (int i = 0; i < 30; i++) {
                r.call(0, "shake", 19, i % 3, 0);
                r.call(1, "shake", 20, 0, 0);
            }
            r.call(4, "shake", 0, 0, 1);
            r.call(4, "shake", 19, 2, 99);
            r.fraction("a refused one takes nothing", r.x.saved(0, 0, 0), 3, 2);
        }).sees("class SlipSheets", "SHAKES_MOST = 30", "SHAKES_MOST = 29")
            .sees("class SlipSheets", "SHAKES_MOST = 30", "SHAKES_MOST = 31")
            .sees("public boolean shake", "shakes.size >= SHAKES_MOST", "shakes.size > SHAKES_MOST");

        book.says("in a YEAR a CELL let go so many units (0 to 99)", r -> {
            r.land(LAND, 4);
            r.call(0, "shake", 0, 0, 0);
            r.fraction("0", r.x.saved(0, 0, 0), 3, 2);
            r.call(0, "shake", 19, 2, 99);
            r.fraction("99", r.x.saved(2, 19, 1), 17433, 500);
            for (int units : new int[] {LEAST_INT, -1, 100, MOST_INT}) {
                r.call(1, "shake", 0, 0, units);
            }
            r.fraction("it stays", r.x.saved(0, 0, 0), 3, 2);
            r.call(0, "shake", 0, 0, 1);
            r.fraction("its YEAR", r.x.saved(0, 0, 0), 1, 2);
            r.fraction("no other CELL", r.x.saved(1, 0, 1), 3, 4);
            r.fraction("ahead of 19", r.x.saved(2, 18, 1), 1271727, 10000);
        }).sees("public boolean shake", "isWithin(units, 0, UNITS_MOST)", "isWithin(units, 1, UNITS_MOST)")
            .sees("public boolean shake", "isWithin(units, 0, UNITS_MOST)", "isWithin(units, -1, UNITS_MOST)")
            .sees("public boolean shake", "isWithin(units, 0, UNITS_MOST)", "isWithin(units, 0, UNITS_MOST - 1)")
            .sees("public boolean shake", "isWithin(units, 0, UNITS_MOST)", "isWithin(units, 0, UNITS_MOST + 1)")
            .sees("private long left", "&& cells[i] == cell", "")
            .sees("private long left", "years[i] == year &&", "");

        book.says("those of a YEAR as they were told.", r -> {
            r.land(LAND, 4);
            r.call(0, "shake", 5, 0, 2);
            r.call(0, "shake", 1, 0, 1);
            r.call(0, "shake", 1, 0, 99);
            r.call(0, "shake", 5, 0, 1);
            r.fraction("YEAR 1: both", r.x.saved(0, 1, 0), 0, 1);
            r.fraction("YEAR 5: both, a later one told first", r.x.saved(0, 5, 0), 3, 1);
            r.call(0, "shake", 0, 0, 1);
            r.fraction("a YEAR told late", r.x.saved(0, 0, 0), 1, 2);
            r.fraction("YEAR 5 is the same", r.x.saved(0, 5, 0), 3, 1);
        }).sees("private long left", "for (int i = 0; i < size; i++) {", "for (int i = 0; i < Math.min(size, 2); i++) {")
            .sees("private long left", "there -= Math.min(there, units[i] * PARTS_OF_UNIT);", "there -= Math.min(there, units[i] * PARTS_OF_UNIT); break;");
    }

    private static void shakeCall(Book book) {
        book.says("`boolean shake(int year, int cell, int units)`: A SHAKE (1, 4).", r -> {
            r.call(1, "shake", 0, 0, 0);
            r.land(LAND, 4);
            for (int year : new int[] {LEAST_INT, -1, 20, MOST_INT}) {
                r.call(1, "shake", year, 0, 0);
            }
            for (int cell : new int[] {LEAST_INT, -1, 3, 6, MOST_INT}) {
                r.call(1, "shake", 0, cell, 0);
            }
            for (int i = 0; i < 30; i++) {
                r.call(0, "shake", i % 20, 2, i);
            }
            r.call(4, "shake", 0, 0, 0);
            r.call(1, "shake", 0, 0, 100);
            r.call(1, "shake", 0, 3, 0);
            r.call(1, "shake", 20, 0, 0);
        }).sees("public boolean shake", "!isYear(year) ||", "")
            .sees("public boolean shake", "!isCell(cell) ||", "")
            .sees("public boolean shake", "!isCell(cell)", "!isOneOf(cell, CELLS_MOST)")
            .sees("public boolean shake", "if (!isYear(year)", "if (shakes.size >= SHAKES_MOST) { return deny(ONE_TOO_MANY); } if (!isYear(year)");
    }

    private static void saved(Book book) {
        book.says("SAVED in a CELL at the end of a YEAR, at least and at most: from 0 on each YEAR (0, too) what is saved by 100, times the hundredths "
            + "by 100 by which it is at least (at most) stuck, comes to it", r -> {
            r.land(LAND, 4);
            r.fraction("YEAR 0, wholly stuck", r.x.saved(0, 0, 0), 3, 2);
            r.fraction("YEAR 0, wholly stuck", r.x.saved(0, 0, 1), 3, 2);
            r.fraction("YEAR 1", r.x.saved(0, 1, 0), 3, 1);
            r.fraction("YEAR 19", r.x.saved(0, 19, 0), 30, 1);
            r.fraction("at least nothing", r.x.saved(1, 19, 0), 0, 1);
            r.fraction("at most half", r.x.saved(1, 0, 1), 3, 4);
            r.fraction("at most half", r.x.saved(1, 19, 1), 15, 1);
            r.fraction("at least 33 of 999", r.x.saved(2, 0, 0), 32967, 10000);
            r.fraction("at most 67 of 999", r.x.saved(2, 0, 1), 66933, 10000);
            r.fraction("20 times", r.x.saved(2, 19, 1), 66933, 500);
            r.land("sheet a cells 1 saves 999;sheet b cells 1 saves 0;stuck a 0 from 1 to 100;", 3);
            r.fraction("the least", r.x.saved(0, 0, 0), 999, 10000);
            r.fraction("the most", r.x.saved(0, 19, 1), 999, 5);
            r.fraction("nothing", r.x.saved(1, 19, 1), 0, 1);
        }).sees("private long left", "int year = 0; year <= lastYear", "int year = 1; year <= lastYear")
            .sees("private long left", "year <= lastYear", "year < lastYear")
            .sees("class Shakes", "PARTS_OF_UNIT = 10000", "PARTS_OF_UNIT = 1000")
            .sees("private long left", "long there = 0;", "long there = 1;")
            .sees("public int saved", "what == 0 ? ground.stuckLeast[cell] : ground.stuckMost[cell]", "what == 1 ? ground.stuckLeast[cell] : ground.stuckMost[cell]")
            .sees("public int saved", "(long) ground.saves[cell] * hundredths", "(long) ground.saves[cell] * hundredths / 100 * 100");

        book.says("then each SHAKE of that YEAR takes what it let go, but not more than there is.", r -> {
            r.land(LAND, 4);
            r.call(0, "shake", 0, 0, 1);
            r.fraction("first comes, then goes", r.x.saved(0, 0, 0), 1, 2);
            r.call(0, "shake", 1, 0, 2);
            r.fraction("all there is, just", r.x.saved(0, 1, 0), 0, 1);
            r.call(0, "shake", 3, 0, 4);
            r.fraction("not more than there is", r.x.saved(0, 3, 0), 0, 1);
            r.fraction("the YEAR ahead of it", r.x.saved(0, 2, 0), 3, 2);
            r.fraction("on from 0", r.x.saved(0, 4, 0), 3, 2);
            r.call(0, "shake", 4, 0, 1);
            r.call(0, "shake", 4, 0, 99);
            r.fraction("each of a YEAR", r.x.saved(0, 4, 1), 0, 1);
            r.call(0, "shake", 2, 1, 2);
            r.fraction("at most", r.x.saved(1, 2, 1), 1, 4);
            r.fraction("at least", r.x.saved(1, 2, 0), 0, 1);
        }).sees("private long left", "Math.min(there, units[i] * PARTS_OF_UNIT)", "units[i] * PARTS_OF_UNIT")
            .sees("private long left", "there -= Math.min(there, units[i] * PARTS_OF_UNIT);", "there = there < units[i] * PARTS_OF_UNIT ? there : there - units[i] * PARTS_OF_UNIT;")
            .sees("private long left", "there += yearly; for (int i = 0; i < size; i++) { if (years[i] == year && cells[i] == cell) "
                + "{ there -= Math.min(there, units[i] * PARTS_OF_UNIT); } }", "for (int i = 0; i < size; i++) { if (years[i] == year && cells[i] == cell) "
                + "{ there -= Math.min(there, units[i] * PARTS_OF_UNIT); } } there += yearly;");
    }

    private static void savedCall(Book book) {
        book.says("`int saved(int cell, int year, int what)`: The FRACTION is what is SAVED in a CELL at the end of a YEAR, what 0: at least, 1: at most (1).", r -> {
            r.call(1, "saved", 0, 0, 0);
            r.land("mark p;", 1);
            r.call(1, "saved", 0, 0, 0);
            r.land(LAND, 4);
            r.fraction("at least", r.x.saved(2, 0, 0), 32967, 10000);
            r.fraction("at most", r.x.saved(2, 0, 1), 66933, 10000);
            for (int cell : new int[] {LEAST_INT, -1, 3, 6, MOST_INT}) {
                r.call(1, "saved", cell, 0, 0);
            }
            for (int year : new int[] {LEAST_INT, -1, 20, MOST_INT}) {
                r.call(1, "saved", 0, year, 0);
            }
            for (int what : new int[] {LEAST_INT, -1, 2, MOST_INT}) {
                r.call(1, "saved", 0, 0, what);
            }
            r.due("the FRACTION told latest: its top", r.x.top(), 66933);
        }).sees("public int saved", "!isCell(cell) ||", "!isOneOf(cell, CELLS_MOST) ||")
            .sees("public int saved", "!isYear(year) ||", "!isWithin(year, 0, 20) ||")
            .sees("public int saved", "isOneOf(what, 2)", "isOneOf(what, 3)")
            .sees("public int saved", "return refuse(BAD_NUMBER);", "tell(0, 1); return refuse(BAD_NUMBER);");
    }

    private static void fractions(Book book) {
        book.says("It is a FRACTION.", r -> {
            r.land(LAND, 4);
            r.fraction("half a unit and more", r.x.saved(2, 0, 0), 32967, 10000);
            r.fraction("whole units", r.x.saved(0, 1, 0), 3, 1);
            r.fraction("none", r.x.saved(1, 0, 0), 0, 1);
        }).sees("public int saved", "return tell(shakes.left(cell, year, yearly), Shakes.PARTS_OF_UNIT);", "return answer((int) (shakes.left(cell, year, yearly) / 10000));");

        book.says("FRACTIONS are told by top() and bottom() without a common divisor, the bottom above 0; 0 is 0 by 1.", r -> {
            r.land("sheet a cells 2 saves 100;mark p;moves a 0 p 1;stuck a 1 from 0 to 100;", 4);
            r.fraction("1 by 1", r.x.saved(0, 0, 0), 1, 1);
            r.fraction("20 by 1", r.x.saved(0, 19, 0), 20, 1);
            r.fraction("0 by 1", r.x.saved(1, 19, 0), 0, 1);
            r.rows(0, 0, 0, 0, 4, -6);
            r.fraction("-3 by 2", r.x.line(0, 0, 4, 0), -3, 2);
            r.rows(0, 0, 4, 6);
            r.fraction("3 by 2", r.x.line(0, 0, 4, 0), 3, 2);
            r.rows(0, 0, 4, 0);
            r.fraction("0 by 1", r.x.line(0, 0, 4, 0), 0, 1);
            r.fraction("0 by 1", r.x.line(0, 0, 4, 1), 0, 1);
            r.fraction("1 by 1", r.x.odds(0, 1, 3, 0), 1, 1);
            r.fraction("1 by 2", r.x.odds(0, 1, 2, 5), 1, 2);
            r.fraction("0 by 1", r.x.odds(0, 1, 1, 10), 0, 1);
        }).sees("private int tell", "fractionTop = above / divisor; fractionBottom = below / divisor;", "fractionTop = above; fractionBottom = below;")
            .sees("private int tell", "commonDivisor(Math.abs(above), below)", "commonDivisor(above, below)")
            .sees("private int tell", "long divisor = commonDivisor(Math.abs(above), below);", "long divisor = above == 0 ? 1 : commonDivisor(Math.abs(above), below);")
            .sees("private static long commonDivisor", "i < 200", "i < 1");

        book.says("A call that tells one answers 1 if it is above 0, 0 if it is 0, -1 if it is below (STATUS tells that from NONE).", r -> {
            r.land("sheet a cells 2 saves 100;mark p;moves a 0 p 1;stuck a 1 from 0 to 100;", 4);
            r.rows(0, 0, 0, 0, 19, -1, 10, 2000);
            r.is("below", r.x.line(0, 10, 19, 0), -1);
            r.is("above", r.x.line(0, 0, 10, 0), 1);
            r.is("REST above", r.x.line(0, 0, 19, 1), 1);
            r.is("REST 0", r.x.line(0, 0, 10, 1), 0);
            r.none("NONE", r.x.line(0, 0, 9, 0), 6);
            r.is("saved", r.x.saved(0, 19, 0), 1);
            r.is("saved 0", r.x.saved(1, 19, 0), 0);
            r.is("odds", r.x.odds(0, 1, 1, 9), 1);
            r.is("odds 0", r.x.odds(0, 1, 1, 10), 0);
            r.rows(0, 0, 0, 0, 1, 0, 2, 0);
            r.is("level", r.x.line(0, 0, 2, 0), 0);
        }).sees("private int tell", "Long.signum(fractionTop)", "(int) fractionTop")
            .sees("private int tell", "answer(Long.signum(fractionTop))", "Long.signum(fractionTop)")
            .sees("private int tell", "Long.signum(fractionTop)", "Math.abs(Long.signum(fractionTop))");

        book.says("`int status()`: STATUS of the latest call that has one.", r -> {
            r.due("a new object", r.x.status(), 0);
            r.x.many(2);
            r.due("1", r.x.status(), 1);
            r.due("asked again", r.x.status(), 1);
            r.x.feed(0, 0, 0, 0, 0);
            r.x.top();
            r.x.bottom();
            r.x.fault(0);
            r.x.fault(9);
            r.due("calls that have none leave it", r.x.status(), 1);
            r.x.read(0, 0);
            r.due("2", r.x.status(), 2);
            r.x.many(0);
            r.due("0", r.x.status(), 0);
        }).sees("public int status", "return latestStatus;", "int told = latestStatus; latestStatus = FINE; return told;")
            .sees("public int fault", "if (what == 0) {", "latestStatus = FINE; if (what == 0) {")
            .sees("public int feed", "reader.append(a);", "latestStatus = FINE; reader.append(a);")
            .sees("private int answer", "latestStatus = FINE;", "");

        book.says("`long top()`: The top of the FRACTION told latest.", r -> {
            r.due("a new object", r.x.top(), 0);
            r.land("sheet a cells 1 saves 7;mark p;", 2);
            r.fraction("saved", r.x.saved(0, 0, 0), 7, 100);
            r.call(1, "saved", 1, 0, 0);
            r.call(6, "line", 0, 0, 1, 0);
            r.call(1, "odds", 0, 1, 0, 0);
            r.is("slips", r.x.slips(0, 1), 10);
            r.land("mark p;", 1);
            r.due("it stays", r.x.top(), 7);
            r.rows(0, 0, 0, 2000, 1, -2000);
            r.fraction("below 0", r.x.line(0, 0, 1, 0), -4000, 1);
        }).sees("public int line", "return refuse(NONE_SUCH);", "tell(0, 1); return refuse(NONE_SUCH);")
            .sees("public int land", "shakes.clear();", "shakes.clear(); fractionTop = 0;")
            .sees("public long top", "return fractionTop;", "return Math.abs(fractionTop);");

        book.says("`long bottom()`: Its bottom, above 0.", r -> {
            r.due("a new object", r.x.bottom(), 1);
            r.land("sheet a cells 1 saves 7;mark p;", 2);
            r.fraction("saved", r.x.saved(0, 0, 0), 7, 100);
            r.call(1, "saved", 0, 0, 2);
            r.due("it stays", r.x.bottom(), 100);
            r.rows(0, 0, 0, 5, 3, 0);
            r.fraction("of one below 0", r.x.line(0, 0, 3, 0), -5, 3);
            r.rows(0, 0, 4, -1);
            r.fraction("of a REST", r.x.line(0, 0, 4, 1), 2, 13);
            r.rows(0, 0, 18, -6, 14, 0);
            r.fraction("of one below 0, with a common divisor", r.x.line(0, 14, 18, 0), -3, 2);
            r.rows(0, 0, 3, 5);
            r.fraction("of 0", r.x.line(0, 0, 3, 0), 0, 1);
        }).sees("class SlipSheets", "fractionBottom = 1;", "fractionBottom = 0;")
            .sees("private int tell", "commonDivisor(Math.abs(above), below)", "commonDivisor(above, below)");
    }
}
