/** What the document says of LINES, BREAKS and SLOW slips: promises 18 to 20. */
final class LineWords {
    private static final int LEAST_INT = Integer.MIN_VALUE;
    private static final int MOST_INT = Integer.MAX_VALUE;

    private LineWords() {
    }

    static void tell(Book book) {
        lines(book);
        rests(book);
        lineCall(book);
        breaks(book);
        breaksCall(book);
        beside(book);
        slows(book);
        slowCall(book);
    }

    private static void land(Run r) {
        r.land("mark b;mark c;", 2);
    }

    private static void lines(Book book) {
        book.says("LINE of a MARK from a YEAR to a YEAR: by its VALUES there (two at least) that with the least sum of squares: SLOPE, a FRACTION.", r -> {
            land(r);
            r.call(6, "line", 0, 0, 19, 0);
            r.rows(0, 0, 3, 10);
            r.call(6, "line", 0, 0, 19, 0);
            r.rows(0, 0, 5, 7, 19, 1000);
            r.rows(1, 0, 4, 50, 18, 50);
            r.fraction("two", r.x.line(0, 3, 5, 0), -3, 2);
            r.fraction("from and to count, no other YEAR does", r.x.line(0, 0, 18, 0), -3, 2);
            r.call(6, "line", 0, 4, 5, 0);
            r.call(6, "line", 0, 3, 4, 0);
            r.call(6, "line", 0, 3, 3, 0);
            r.call(6, "line", 0, 6, 18, 0);
            r.fraction("5 and 19", r.x.line(0, 5, 19, 0), 993, 14);
            r.fraction("level", r.x.line(1, 0, 19, 0), 0, 1);
            r.rows(0, 0, 6, 7);
            // 3, 5, 6 with 10, 7, 7: means 14/3 and 8; xx 14/3, xy -5
            r.fraction("three", r.x.line(0, 3, 6, 0), -15, 14);
            r.call(0, "offset", 0, 6, -8);
            // 3, 5, 6 with 10, 7, 15: xx 14/3, xy 17/3
            r.fraction("VALUES, not ROWS", r.x.line(0, 3, 6, 0), 17, 14);
            r.call(0, "asof", 0);
            r.call(0, "row", 0, 3, 0, 0, 1);
            r.fraction("AS OF the DAY", r.x.line(0, 3, 6, 0), 17, 14);
        }).sees("private boolean stands", "n >= 2", "n >= 3")
            .sees("private boolean stands", "n >= 2", "n >= 1")
            .sees("private void fit", "int year = Math.max(from, 0);", "int year = Math.max(from, 0) + 1;")
            .sees("private void fit", "year <= to", "year < to")
            .sees("private void fit", "if (has[year])", "if (has[year] || year == from)")
            .sees("private long tilt", "n * sumXY - sumX * sumY", "n * sumXY - sumX * sumY + 1");
    }

    private static void rests(Book book) {
        book.says("REST: that sum of squares, a FRACTION.", r -> {
            land(r);
            r.rows(0, 0, 0, 5, 9, -7);
            r.fraction("of two", r.x.line(0, 0, 19, 1), 0, 1);
            r.rows(0, 0, 1, 5);
            // 0, 1, 9 with 5, 5, -7: means 10/3 and 1; xx 146/3, xy -68, yy 96
            r.fraction("of three", r.x.line(0, 0, 19, 1), 72, 73);
            r.rows(1, 0, 0, 0, 1, 1, 2, 0);
            r.fraction("2/3", r.x.line(1, 0, 2, 1), 2, 3);
            Run s = r.again();
            land(s);
            for (int i = 0; i < 20; i++) {
                s.rows(0, 0, i, i % 2 == 0 ? 2000 : -2000);
            }
            for (int i = 0; i < 20; i++) {
                s.call(0, "offset", 0, i < 10 ? 0 : 19, i < 10 ? -2000 : 2000);
            }
            // 22,000 and 18,000 in turn, but -2,000 at the end
            s.fraction("SLOPE of great numbers", s.x.line(0, 0, 19, 0), -6000, 19);
            s.fraction("REST of great numbers", s.x.line(0, 0, 19, 1), 9000000000L, 19);
        }).sees("private long restTop", "(n * sumYY - sumY * sumY) * spread() - tilt() * tilt()", "(int) ((n * sumYY - sumY * sumY) * spread() - tilt() * tilt())")
            .sees("private long restTop", "- tilt() * tilt()", "")
            .sees("private long restBottom", "n * spread()", "spread()");
    }

    private static void lineCall(Book book) {
        book.says("`int line(int mark, int from, int to, int what)`: The FRACTION is SLOPE (what 0), REST (1) of a LINE from a YEAR "
            + "to one not ahead (1; 6: fewer than two VALUES).", r -> {
            r.call(1, "line", 0, 0, 19, 0);
            land(r);
            r.call(6, "line", 0, 0, 19, 0);
            r.rows(0, 0, 0, 0, 1, 1, 2, 0, 19, 5);
            r.fraction("SLOPE", r.x.line(0, 0, 2, 0), 0, 1);
            r.fraction("REST", r.x.line(0, 0, 2, 1), 2, 3);
            r.call(1, "line", 0, 2, 1, 0);
            r.call(1, "line", 0, 19, 0, 0);
            r.call(6, "line", 0, 2, 2, 0);
            r.call(6, "line", 0, 19, 19, 1);
            r.call(6, "line", 1, 0, 19, 1);
            for (int beyond : new int[] {LEAST_INT, -1, 2, MOST_INT}) {
                r.call(1, "line", beyond, 0, 2, 0);
                r.call(1, "line", 0, 0, 2, beyond);
                r.call(1, "line", 1, 0, 2, beyond);
            }
            for (int beyond : new int[] {LEAST_INT, -1, 20, MOST_INT}) {
                r.call(1, "line", 0, beyond, 2, 0);
                r.call(1, "line", 0, 0, beyond, 0);
            }
            r.due("the FRACTION told latest: its top", r.x.top(), 2);
            r.due("its bottom", r.x.bottom(), 3);
        }).sees("public int line", "from > to ||", "from >= to ||")
            .sees("public int line", "from > to ||", "")
            .sees("public int line", "!isYear(from) ||", "")
            .sees("public int line", "!isYear(to) ||", "")
            .sees("public int line", "isOneOf(what, 2)", "isOneOf(what, 3)")
            .sees("public int line", "return refuse(NONE_SUCH);", "tell(0, 1); return refuse(NONE_SUCH);")
            .sees("public int line", "if (what == 0)", "if (what == 1)");
    }

    private static void breaks(Book book) {
        book.says("BREAK of a MARK: of all its VALUES (four at least)", r -> {
            land(r);
            r.call(6, "breaks", 0);
            r.rows(0, 0, 0, 0, 1, 0, 18, 9);
            r.call(6, "breaks", 0);
            r.rows(0, 0, 19, 9);
            r.is("four", r.x.breaks(0), 2);
            r.call(6, "breaks", 1);
            r.rows(1, 0, 0, 0, 1, 5, 2, 0, 3, 5);
            r.is("four side by side", r.x.breaks(1), 2);
        }).sees("private int breakYear", "boolean ahead = line.stands();", "boolean ahead = line.stands() && line.n >= 3;")
            .sees("private int breakYear", "if (ahead && line.stands() &&", "if (ahead && line.n >= 1 &&")
            .sees("private boolean stands", "n >= 2", "n >= 1");

        book.says("those ahead of a YEAR, and those from it on (two at least each), with a LINE each", r -> {
            land(r);
            r.rows(0, 0, 0, 900, 1, 0, 2, 0);
            r.call(6, "breaks", 0);
            r.rows(0, 0, 3, 0, 4, 0);
            r.is("not one ahead and four behind", r.x.breaks(0), 2);
            r.rows(1, 0, 4, 0, 5, 1, 6, 2, 7, 50, 8, 49, 9, 48);
            r.is("the YEAR itself is behind", r.x.breaks(1), 7);
        }).sees("private int breakYear", "boolean ahead = line.stands();", "boolean ahead = line.n >= 1;")
            .sees("private int breakYear", "if (ahead && line.stands() &&", "if (ahead && line.n >= 1 &&")
            .sees("private int breakYear", "fit(line, 0, year - 1);", "fit(line, 0, year);")
            .sees("private int breakYear", "fit(line, year, YEARS - 1);", "fit(line, year + 1, YEARS - 1);");

        book.says("the YEAR with which both RESTS, each rounded down, are least together; of several the first.", r -> {
            land(r);
            // at 4 they are 7/10 and 2/3, at 5 they are 7/10 and 0, all others are more than 2
            r.rows(0, 0, 0, 5, 1, 4, 2, 5, 3, 5, 4, 5, 5, 4, 6, 1);
            r.is("each rounded down", r.x.breaks(0), 4);
            r.rows(1, 0, 0, 0, 1, 2, 2, 4, 3, 6, 4, 8, 5, 10);
            r.is("all 0: the first", r.x.breaks(1), 2);
            r.land("mark b;mark c;", 2);
            r.rows(0, 0, 3, 0, 4, 0, 9, 50, 10, 50);
            r.is("5 to 9 part them alike: the first", r.x.breaks(0), 5);
            r.rows(1, 0, 16, 0, 17, 1, 18, 0, 19, 1);
            r.is("the last YEAR that can be", r.x.breaks(1), 18);
        }).sees("private int breakYear", "rest < bestRest", "rest <= bestRest")
            .sees("private long wholeRest", "restTop() / bottom", "(2 * restTop() + bottom) / (2 * bottom)")
            .sees("private long wholeRest", "restTop() / bottom", "1000000 * restTop() / bottom")
            .sees("private int breakYear", "for (int year = 0; year < YEARS; year++) {", "for (int year = 0; year < YEARS - 2; year++) {")
            .sees("private int breakYear", "if (ahead &&", "if (has[year] && ahead &&");
    }

    private static void breaksCall(Book book) {
        book.says("`int breaks(int mark)`: BREAK of a MARK (1; 6: none can be).", r -> {
            r.call(1, "breaks", 0);
            land(r);
            r.call(6, "breaks", 0);
            r.rows(1, 0, 0, 0, 1, 0, 2, 0);
            r.call(6, "breaks", 1);
            r.rows(1, 0, 3, 0);
            r.is("four", r.x.breaks(1), 2);
            for (int mark : new int[] {LEAST_INT, -1, 2, MOST_INT}) {
                r.call(1, "breaks", mark);
            }
            r.call(0, "asof", 0);
            r.call(0, "row", 1, 4, 9, 0, 1);
            r.call(0, "row", 1, 5, 9, 0, 1);
            r.is("AS OF the DAY", r.x.breaks(1), 2);
        }).sees("public int breaks", "!isMark(mark)", "mark > MARKS_MOST")
            .sees("public int breaks", "refuse(NONE_SUCH)", "answer(NONE)")
            .sees("public int breaks", "refuse(NONE_SUCH)", "refuse(BAD_NUMBER)");
    }

    /** VALUES around a level LINE at 0: a column of twos at both sides, and in between what is asked. */
    private static void beside(Book book) {
        book.says("BESIDE the LINE of all its VALUES (two at least) a VALUE lies, above or below, if it is further from it than its SPAN.", r -> {
            land(r);
            r.call(6, "slow", 0, 2, 0, 0);
            r.rows(0, 0, 0, 5);
            r.call(6, "slow", 0, 2, 0, 0);
            r.rows(0, 0, 1, 9);
            r.call(6, "slow", 0, 2, 0, 0);
            // 0 to 5 with 0, 0, 0, 10, 10, 10: the LINE is at -10/7, 8/7, 26/7, 44/7, 62/7, 80/7
            r.rows(1, 0, 0, 0, 1, 0, 2, 0, 3, 10, 4, 10, 5, 10);
            r.is("below by 8/7 and 26/7", r.x.slow(1, 2, 0, 0), 1);
            r.is("below", r.x.slow(1, 2, 0, 2), 0);
            r.is("above by 26/7 and 8/7", r.x.slow(1, 2, 1, 1), 4);
            r.is("above", r.x.slow(1, 2, 1, 2), 1);
            r.rows(1, 1, 1, 0, 4, 10);
            r.rows(1, 3, 2, 0, 3, 10);
            r.is("SPANS 1 and 3 are less", r.x.slow(1, 2, 0, 0), 1);
            r.rows(1, 2, 1, 0);
            r.is("SPAN 2 is more", r.x.slow(1, 2, 0, 0), 3);
            r.rows(1, 4, 3, 10);
            r.call(6, "slow", 1, 2, 0, 0);
            Run s = r.again();
            land(s);
            s.rows(0, 5, 0, 5, 1, 5, 2, -5, 3, -5, 4, -5, 5, -5, 6, 5, 7, 5);
            s.call(6, "slow", 0, 2, 0, 0);
            s.rows(0, 4, 2, -5, 3, -5);
            s.is("just as far as the SPAN is not further", s.x.slow(0, 2, 0, 0), 2);
            s.is("to 3", s.x.slow(0, 2, 0, 1), 3);
            // the LINE is at -260/49, 10/49, 280/49, 4870/49
            s.rows(1, 0, 0, 0, 1, 0, 2, 0, 19, 100);
            s.is("the last YEAR tilts it", s.x.slow(1, 2, 0, 0), 1);
            s.is("to 2", s.x.slow(1, 2, 0, 1), 2);
        }).sees("private int sideOf", "above > span", "above >= span")
            .sees("private int sideOf", "above < -span", "above <= -span")
            .sees("private int sideOf", "line.scaled(spans[year])", "line.scaled(spans[year] + 1)")
            .sees("private int sideOf", "return above < -span ? -1 : 0;", "return 0;")
            .sees("private static int toldOfSlow", "return side > 0 ? 1 : 0;", "return side > 0 ? 0 : 1;")
            .sees("private int slowSlip", "fit(line, 0, YEARS - 1);", "fit(line, 0, 4);")
            .sees("private int slowSlip", "fit(line, 0, YEARS - 1);", "fit(line, 0, YEARS - 2);");
    }

    private static void slows(Book book) {
        book.says("A SLOW slip of a MARK: so many VALUES (2 to 10) and more, one behind the other (as YEARS come that have VALUES), "
            + "all above or all below, as many as there are so.", r -> {
            land(r);
            // level at 0: above 0 to 4, below 5 to 14, above 15 to 19, each YEAR
            for (int year = 0; year < 20; year++) {
                r.rows(0, 0, year, year < 5 || year > 14 ? 1 : -1);
            }
            for (int much = 2; much <= 10; much++) {
                int k = much <= 5 ? 1 : 0;
                r.is("ten below: the first", r.x.slow(0, much, k, 0), 5);
                r.is("ten below: the last", r.x.slow(0, much, k, 1), 14);
                r.is("below", r.x.slow(0, much, k, 2), 0);
                r.call(6, "slow", 0, much, much <= 5 ? 3 : 1, 0);
            }
            r.is("five up to the last YEAR", r.x.slow(0, 5, 2, 1), 19);
            for (int much : new int[] {LEAST_INT, -1, 0, 1, 11, MOST_INT}) {
                r.call(1, "slow", 0, much, 0, 0);
            }
            r.rows(0, 1, 9, -1);
            r.call(6, "slow", 0, 6, 0, 0);
            r.is("one that is not beside parts them", r.x.slow(0, 4, 1, 1), 8);
            Run s = r.again();
            land(s);
            s.rows(0, 0, 0, 1, 3, 1, 9, -1, 10, -1, 16, 1, 19, 1);
            s.is("YEARS without VALUES part none", s.x.slow(0, 2, 0, 1), 3);
            s.is("the last one", s.x.slow(0, 2, 2, 0), 16);
            s.call(6, "slow", 0, 3, 0, 0);
        }).sees("public int slow", "isWithin(much, 2, 10)", "isWithin(much, 1, 10)")
            .sees("public int slow", "isWithin(much, 2, 10)", "isWithin(much, 3, 10)")
            .sees("public int slow", "isWithin(much, 2, 10)", "isWithin(much, 2, 11)")
            .sees("public int slow", "isWithin(much, 2, 10)", "isWithin(much, 2, 9)")
            .sees("private int slowSlip", "length >= much", "length > much")
            .sees("private int slowSlip", "length >= much", "length == much")
            .sees("private int slowSlip", "if (year < YEARS && !has[year]) { continue; }", "if (year < YEARS && !has[year]) { side = 0; length = 0; continue; }")
            .sees("private int slowSlip", "year <= YEARS; year++", "year < YEARS; year++");

        book.says("SLOW slips are numbered from 0 as they begin.", r -> {
            land(r);
            r.rows(0, 0, 0, 1, 1, 1, 2, -1, 3, -1, 4, -1, 5, 1, 6, 1, 7, -1, 8, 1, 9, 1, 10, -1, 11, -1, 12, -1, 13, 1, 14, 1);
            int[] begins = {0, 2, 5, 8, 10, 13};
            for (int k = 0; k < begins.length; k++) {
                r.is("slow slip " + k, r.x.slow(0, 2, k, 0), begins[k]);
            }
            r.call(6, "slow", 0, 2, begins.length, 0);
            r.is("of three and more the first", r.x.slow(0, 3, 0, 0), 2);
            r.is("the second", r.x.slow(0, 3, 1, 0), 10);
            r.call(6, "slow", 0, 3, 2, 0);
        }).sees("private int slowSlip", "int found = 0;", "int found = 1;")
            .sees("private int slowSlip", "found += isSlow ? 1 : 0;", "found += 1;")
            .sees("private int slowSlip", "found += isSlow ? 1 : 0;", "found += isSlow && side > 0 ? 1 : 0;");
    }

    private static void slowCall(Book book) {
        book.says("`int slow(int mark, int much, int k, int what)`: The YEAR of the first VALUE (what 0), of the last one (1), "
            + "the side (2: 1 above, 0 below) of the k-th SLOW slip of so many VALUES and more (1: k below 0, too; 6).", r -> {
            r.call(1, "slow", 0, 2, 0, 0);
            land(r);
            r.rows(0, 0, 0, 1, 2, 1, 4, -1, 5, -1, 7, -1, 8, -1, 10, 1, 12, 1);
            int[][] due = {{0, 2, 1}, {4, 8, 0}, {10, 12, 1}};
            for (int k = 0; k < 3; k++) {
                for (int what = 0; what < 3; what++) {
                    r.is("slow(0, 2, " + k + ", " + what + ")", r.x.slow(0, 2, k, what), due[k][what]);
                }
            }
            r.call(6, "slow", 0, 2, 3, 0);
            r.call(6, "slow", 0, 2, MOST_INT, 2);
            r.call(6, "slow", 1, 2, 0, 0);
            r.call(1, "slow", 0, 2, -1, 0);
            r.call(1, "slow", 0, 2, LEAST_INT, 0);
            r.call(1, "slow", 1, 2, -1, 0);
            for (int what : new int[] {LEAST_INT, -1, 3, MOST_INT}) {
                r.call(1, "slow", 0, 2, 0, what);
            }
            for (int mark : new int[] {LEAST_INT, -1, 2, MOST_INT}) {
                r.call(1, "slow", mark, 2, 0, 0);
            }
        }).sees("public int slow", "|| k < 0", "")
            .sees("public int slow", "isOneOf(what, 3)", "isOneOf(what, 4)")
            .sees("public int slow", "isOneOf(what, 3)", "isOneOf(what, 2)")
            .sees("public int slow", "refuse(NONE_SUCH)", "refuse(BAD_NUMBER)")
            .sees("private int slowSlip", "last = year;", "last = begin;")
            .sees("private int slowSlip", "begin = year;", "begin = last;");
    }
}
