/** What the document says of SLIPS, ENDS, CORNER and ODDS: promises 21 to 25 and 30. */
final class SlipWords {
    private static final int LEAST_INT = Integer.MIN_VALUE;
    private static final int MOST_INT = Integer.MAX_VALUE;
    /** Two CELLS, a MARK for each. */
    private static final String PAIR = "sheet a cells 2 saves 0;mark p;mark q;near a 0 a 1;moves a 0 p 1;moves a 1 q 1;";
    /** How many pairs of numbers 0 to 9 differ by at most 0, 1 .. 9. */
    private static final int[] PAIRS = {10, 28, 44, 58, 70, 80, 88, 94, 98, 100};

    private SlipWords() {
    }

    static void tell(Book book) {
        years(book);
        moved(book);
        numbers(book);
        smooth(book);
        howMany(book);
        ends(book);
        first(book);
        corner(book);
        odds(book);
    }

    private static void years(Book book) {
        book.says("Between two YEARS (the first ahead of the second one)", r -> {
            r.land("sheet a cells 1 saves 0;mark p;moves a 0 p 1;", 3);
            int[][] wrong = {{5, 5}, {5, 4}, {19, 0}, {0, 0}, {19, 19}, {-1, 0}, {-1, 5}, {19, 20}, {0, 20}, {LEAST_INT, 5}, {5, MOST_INT}, {MOST_INT, LEAST_INT}};
            int[][] right = {{0, 1}, {0, 19}, {18, 19}, {5, 6}};
            for (int[] years : wrong) {
                all(r, 1, 1, years);
            }
            for (int[] years : right) {
                all(r, 0, 6, years);
            }
        }).sees("private static boolean areYears", "from < to", "from <= to")
            .sees("private static boolean areYears", "from < to", "from != to")
            .sees("private static boolean areYears", "isYear(from) &&", "")
            .sees("private static boolean areYears", "isYear(to) &&", "")
            .sees("public int corner", "!areYears(from, to)", "!isYear(from) || !isYear(to)")
            .sees("public int without", "!areYears(from, to) ||", "!isYear(from) || !isYear(to) ||")
            .sees("public int odds", "!areYears(from, to) ||", "!isYear(from) || !isYear(to) ||");
    }

    private static void all(Run r, int status, int statusOfQuarrel, int[] years) {
        r.call(status, "slips", years[0], years[1]);
        r.call(status, "ends", years[0], years[1], 1, 0);
        r.call(status, "first", years[0], years[1], 0);
        r.call(status, "corner", years[0], years[1]);
        r.call(statusOfQuarrel, "quarrel", years[0], years[1], 0);
        r.call(status, "without", years[0], years[1], 0);
        r.call(status, "odds", years[0], years[1], 1, 0);
    }

    private static void moved(Book book) {
        book.says("a MARK that has VALUES in both MOVED from their difference (the second less the first) less both SPANS to that and both SPANS.", r -> {
            r.land("sheet a cells 1 saves 0;mark p;mark q;moves a 0 p 1;", 4);
            r.call(0, "row", 0, 2, 10, 1, 0);
            r.is("a VALUE in the first alone", r.x.slips(2, 4), 10);
            r.is("a VALUE in the second alone", r.x.slips(0, 2), 10);
            r.call(0, "row", 0, 4, 15, 2, 0);
            r.is("2 to 8", r.x.slips(2, 4), 7);
            r.is("2", r.x.ends(2, 4, 1, 0), 2);
            r.is("8", r.x.ends(2, 4, 1, 1), 8);
            r.call(0, "row", 0, 6, 10, 0, 0);
            r.is("back by 5, SPAN 2: none", r.x.slips(4, 6), 0);
            r.call(0, "row", 0, 6, 10, 3, 0);
            r.is("back by 5, SPANS 2 and 3: 0 alone", r.x.slips(4, 6), 1);
            r.call(0, "row", 0, 7, 13, 0, 0);
            r.call(0, "row", 0, 8, 20, 0, 0);
            r.is("7 just", r.x.slips(7, 8), 1);
            r.is("7 just", r.x.first(7, 8, 0), 7);
            r.call(0, "offset", 0, 8, 3);
            r.is("VALUES, not ROWS: 4", r.x.first(7, 8, 0), 4);
            r.call(0, "asof", 0);
            r.call(0, "row", 0, 7, 9, 0, 1);
            r.is("AS OF the DAY: 4", r.x.first(7, 8, 0), 4);
            r.call(0, "asof", 1);
            r.is("AS OF the DAY: 8", r.x.first(7, 8, 0), 8);
        }).sees("private void prepare", "low[mark] = difference - span;", "low[mark] = difference - span + 1;")
            .sees("private void prepare", "low[mark] = difference - span;", "low[mark] = difference - span - 1;")
            .sees("private void prepare", "high[mark] = difference + span;", "high[mark] = difference + span - 1;")
            .sees("private void prepare", "high[mark] = difference + span;", "high[mark] = difference + span + 1;")
            .sees("private void prepare", "ledger.spans[from] + ledger.spans[to]", "ledger.spans[to]")
            .sees("private void prepare", "ledger.spans[from] + ledger.spans[to]", "ledger.spans[from]")
            .sees("private void prepare", "ledger.values[to] - ledger.values[from]", "ledger.values[from] - ledger.values[to]")
            .sees("private void prepare", "ledger.has[from] && ledger.has[to]", "ledger.has[to]")
            .sees("private void prepare", "ledger.has[from] && ledger.has[to]", "ledger.has[from]");
    }

    private static void numbers(Book book) {
        book.says("SLIPS: of each CELL a whole number 0 to 9", r -> {
            int[] values = {-2, -1, 0, 1, 2, 17, 18, 19, 20};
            int[] many = {0, 0, 1, 0, 1, 0, 1, 0, 0};
            for (int cells = 1; cells <= 2; cells++) {
                r.land("sheet a cells " + cells + " saves 0;mark p;moves a 0 p 2;", 3);
                r.rows(0, 0, 0, 0);
                for (int i = 0; i < values.length; i++) {
                    r.rows(0, 0, 1, values[i]);
                    r.is("slips by " + values[i], r.x.slips(0, 1), cells == 1 ? many[i] : 10 * many[i]);
                }
            }
            r.rows(0, 0, 1, 18);
            r.is("9", r.x.first(0, 1, 0), 9);
            r.rows(0, 0, 1, 0);
            r.is("0", r.x.ends(0, 1, 1, 1), 0);
            r.is("any", r.x.slips(1, 2), 100);
            r.is("the least of one", r.x.ends(1, 2, 2, 0), 0);
            r.is("the most of one", r.x.ends(1, 2, 2, 1), 9);
        }).sees("class SlipSheets", "SLIP_MOST = 9", "SLIP_MOST = 8")
            .sees("private int leastBeside", "int least = 0;", "int least = 1;")
            .sees("private int leastBeside", "int least = 0;", "int least = -1;")
            .sees("private int mostBeside", "int most = SLIP_MOST;", "int most = SLIP_MOST + 1;")
            .sees("private void narrowBy", "Math.max(from[cell], -Math.floorDiv(-low, unit))", "Math.max(from[cell], Math.floorDiv(low, unit))");

        book.says("so that each such MARK moves by all together (units times what a unit moves it) within what it MOVED", r -> {
            r.land("sheet a cells 2 saves 0;mark p;mark q;moves a 0 p 3;moves a 1 p -2;moves a 0 q -1;", 6);
            r.rows(0, 0, 0, 0);
            r.rows(0, 1, 1, 0);
            // 3 times one less 2 times the other is -1 (1 2, 3 5, 5 8), 0 (0 0, 2 3, 4 6, 6 9) or 1 (1 1, 3 4, 5 7)
            r.is("-1 to 1", r.x.slips(0, 1), 10);
            r.is("the least together", r.x.ends(0, 1, 3, 0), 0);
            r.is("the most together", r.x.ends(0, 1, 3, 1), 15);
            r.rows(0, 1, 1, -17);
            r.is("-18 to -16: 0 8, 0 9", r.x.slips(0, 1), 2);
            r.rows(0, 0, 1, 27);
            r.is("27: 9 0", r.x.slips(0, 1), 1);
            r.rows(0, 0, 1, 28);
            r.is("28: none", r.x.slips(0, 1), 0);
            r.rows(0, 0, 1, -19);
            r.is("-19: none", r.x.slips(0, 1), 0);
            r.rows(0, 1, 1, 0);
            r.rows(1, 0, 0, 0, 1, -5);
            r.is("both MARKS: 5 7, 5 8", r.x.slips(0, 1), 2);
            r.is("the first", r.x.first(0, 1, 1), 7);
            r.rows(1, 0, 1, -7);
            r.is("-7 by the one, not by the other", r.x.slips(0, 1), 0);
            r.rows(1, 0, 1, 1);
            r.is("1 can't be", r.x.slips(0, 1), 0);
            r.land("sheet a cells 2 saves 0;mark p;moves a 0 p -2;moves a 1 p 3;", 4);
            r.rows(0, 0, 0, 0);
            r.rows(0, 1, 1, 0);
            r.is("the other way round", r.x.slips(0, 1), 10);
        }).sees("private void narrowBy", "Math.min(to[cell], Math.floorDiv(high, unit))", "Math.min(to[cell], Math.floorDiv(high - 1, unit))")
            .sees("private void narrowBy", "-Math.floorDiv(high, -unit)", "-Math.floorDiv(high - 1, -unit)")
            .sees("private void narrowBy", "Math.floorDiv(-low, -unit)", "Math.floorDiv(-low - 1, -unit)")
            .sees("private void narrowBy", "-Math.floorDiv(-low, unit)", "-Math.floorDiv(-low - 1, unit)")
            .sees("private void boundRests", "Math.min(most, 0)", "Math.min(most, 0) + 1")
            .sees("private void boundRests", "Math.max(most, 0)", "Math.max(most, 0) - 1");
    }

    private static void smooth(Book book) {
        book.says("CELLS that lie beside one another differ by at most SMOOTH (0 to 9; 9 at first).", r -> {
            r.land("sheet a cells 2 saves 0;near a 0 a 1;", 2);
            r.is("9 at first", r.x.slips(0, 1), 100);
            for (int much = 0; much <= 9; much++) {
                r.call(0, "smooth", much);
                r.is("slips by SMOOTH " + much, r.x.slips(0, 1), PAIRS[much]);
            }
            r.call(0, "smooth", 1);
            for (int much : new int[] {LEAST_INT, -1, 10, MOST_INT}) {
                r.call(1, "smooth", much);
            }
            r.is("it stays", r.x.slips(0, 1), 28);
            r.land("sheet a cells 3 saves 0;near a 0 a 1;near a 2 a 1;", 3);
            r.is("each to its own neighbour", r.x.slips(0, 1), 80);
            r.land("sheet a cells 3 saves 0;near a 0 a 2;", 2);
            r.is("one between them lies beside none", r.x.slips(0, 1), 280);
            r.land("sheet a cells 3 saves 0;", 1);
            r.is("none beside one another", r.x.slips(0, 1), 1000);
        }).sees("class SlipSheets", "smoothness = SLIP_MOST;", "smoothness = SLIP_MOST - 1;")
            .sees("public boolean smooth", "isWithin(much, 0, SLIP_MOST)", "isWithin(much, 1, SLIP_MOST)")
            .sees("public boolean smooth", "isWithin(much, 0, SLIP_MOST)", "isWithin(much, -1, SLIP_MOST)")
            .sees("public boolean smooth", "isWithin(much, 0, SLIP_MOST)", "isWithin(much, 0, SLIP_MOST - 1)")
            .sees("public boolean smooth", "isWithin(much, 0, SLIP_MOST)", "isWithin(much, 0, SLIP_MOST + 1)")
            .sees("private int leastBeside", "slips[other] - smooth", "slips[other] - smooth + 1")
            .sees("private int mostBeside", "slips[other] + smooth", "slips[other] + smooth - 1")
            .sees("private boolean isLoose", "smooth >= SLIP_MOST", "smooth >= SLIP_MOST - 1")
            .sees("private boolean isLoose", "int other = cell;", "int other = cell + 1;");

        book.says("`boolean smooth(int much)`: SMOOTH (1).", r -> {
            r.call(0, "smooth", 0);
            r.call(1, "smooth", 10);
            r.call(1, "smooth", -1);
            r.land("sheet a cells 2 saves 0;near a 0 a 1;", 2);
            r.is("by SMOOTH 0", r.x.slips(0, 1), 10);
            r.call(0, "smooth", 9);
            r.call(1, "smooth", LEAST_INT);
            r.call(1, "smooth", MOST_INT);
            r.is("by SMOOTH 9", r.x.slips(0, 1), 100);
        }).sees("public boolean smooth", "return deny(BAD_NUMBER);", "smoothness = 5; return deny(BAD_NUMBER);")
            .sees("public boolean smooth", "smoothness = much;", "smoothness = Math.min(smoothness, much);");
    }

    private static void howMany(Book book) {
        book.says("HOW MANY there are", r -> {
            r.land("sheet a cells 6 saves 0;mark p;moves a 0 p 1;moves a 1 p 1;moves a 2 p 1;moves a 3 p 1;moves a 4 p 1;moves a 5 p 1;", 8);
            r.is("all of six CELLS", r.x.slips(0, 1), 1000000);
            int[] values = {-1, 0, 1, 2, 27, 53, 54, 55};
            int[] many = {0, 1, 6, 21, 55252, 6, 1, 0};
            r.rows(0, 0, 0, 0);
            for (int i = 0; i < values.length; i++) {
                r.rows(0, 0, 1, values[i]);
                r.is("of " + values[i] + " together", r.x.slips(0, 1), many[i]);
            }
            r.rows(0, 200, 0, 0, 1, 27);
            r.is("all again", r.x.slips(0, 1), 1000000);
            r.land("sheet a cells 1 saves 0;", 1);
            r.is("of one CELL", r.x.slips(0, 1), 10);
        }).sees("private void takeLast", "to[cell] - from[cell] + 1", "to[cell] - from[cell]")
            .sees("private void takeAnyFrom", "count += waysToReach(asked.cells - cell, 0);", "count += waysToReach(asked.cells - cell, 1);")
            .sees("private int stillOpen", "sums[at] + restLeast[at] < low[mark] ||", "")
            .sees("private int stillOpen", "|| sums[at] + restMost[at] > high[mark]", "");

        book.says("`int slips(int from, int to)`: HOW MANY SLIPS there are between two YEARS (1; 6: no CELLS).", r -> {
            r.call(6, "slips", 0, 1);
            r.call(1, "slips", 1, 1);
            r.land("mark p;", 1);
            r.call(6, "slips", 0, 1);
            r.call(1, "slips", 0, 20);
            r.land("sheet a cells 1 saves 0;mark p;", 2);
            r.is("one CELL", r.x.slips(0, 1), 10);
            r.rows(0, 0, 0, 0, 1, 1);
            r.is("none, with STATUS 0", r.x.slips(0, 1), 0);
            r.call(1, "slips", 2, 1);
        }).sees("public int slips", "if (ground.cells == 0) { return refuse(NONE_SUCH); }", "")
            .sees("public int slips", "if (ground.cells == 0) {", "if (ground.cells <= 1) {")
            .sees("public int slips", "return answer(walk.count);", "return walk.count == 0 ? refuse(NONE_SUCH) : answer(walk.count);")
            .sees("public int slips", "if (!areYears(from, to)) {", "if (ground.cells == 0) { return refuse(NONE_SUCH); } if (!areYears(from, to)) {");
    }

    private static void ends(Book book) {
        book.says("ENDS of a set of CELLS (1 for CELL 0, 2 for 1 ..): the least and the most that they slip together in any SLIPS", r -> {
            r.land("sheet a cells 3 saves 0;mark p;mark q;mark s;moves a 0 p 1;moves a 1 q 1;moves a 2 s 1;moves a 0 s 1;", 8);
            r.rows(0, 1, 0, 0);
            r.rows(0, 1, 1, 3);
            r.rows(1, 0, 0, 0, 1, 7);
            r.rows(2, 0, 0, 0, 1, 6);
            // CELL 0 is 1 to 5, CELL 1 is 7, CELL 2 makes 6 with CELL 0
            int[][] due = {{1, 5}, {7, 7}, {8, 12}, {1, 5}, {6, 6}, {8, 12}, {13, 13}};
            for (int set = 1; set <= 7; set++) {
                r.is("the least of " + set, r.x.ends(0, 1, set, 0), due[set - 1][0]);
                r.is("the most of " + set, r.x.ends(0, 1, set, 1), due[set - 1][1]);
            }
            r.land("sheet a cells 6 saves 0;", 1);
            r.is("the most of all", r.x.ends(0, 1, 63, 1), 54);
            r.is("the least of all", r.x.ends(0, 1, 63, 0), 0);
            r.is("the most of the last", r.x.ends(0, 1, 32, 1), 9);
            r.land("sheet a cells 3 saves 0;mark p;moves a 0 p 1;", 3);
            r.rows(0, 0, 0, 0, 1, 4);
            r.is("the most of one told and two free", r.x.ends(0, 1, 7, 1), 22);
            r.is("the least of one told and one free", r.x.ends(0, 1, 5, 0), 4);
        }).sees("private void noteEnds", "Math.min(least, lesser)", "lesser")
            .sees("private void noteEnds", "Math.max(most, greater)", "most")
            .sees("private void noteEnds", "count == 0 ? lesser", "count < 0 ? lesser")
            .sees("private void takeAnyFrom", "int inSet = Integer.bitCount(set >> cell);", "int inSet = Integer.bitCount(set);")
            .sees("private void takeAnyFrom", "together + SLIP_MOST * inSet", "together + SLIP_MOST * (asked.cells - cell)")
            .sees("private void takeLast", "together + to[cell] * isIn", "together + to[cell]");

        book.says("`int ends(int from, int to, int cells, int what)`: ENDS of a set of CELLS (1 and more of them), what 0: the least, 1: the most (1; 6: no SLIPS).", r -> {
            r.call(1, "ends", 0, 1, 1, 0);
            r.land(PAIR, 6);
            r.rows(0, 0, 0, 0, 1, 4);
            r.is("one CELL: the least", r.x.ends(0, 1, 2, 0), 0);
            r.is("one CELL: the most", r.x.ends(0, 1, 2, 1), 9);
            r.is("both: the most", r.x.ends(0, 1, 3, 1), 13);
            for (int set : new int[] {LEAST_INT, -1, 0, 4, 7, MOST_INT}) {
                r.call(1, "ends", 0, 1, set, 0);
            }
            for (int what : new int[] {LEAST_INT, -1, 2, MOST_INT}) {
                r.call(1, "ends", 0, 1, 1, what);
            }
            r.rows(0, 0, 1, 10);
            r.call(6, "ends", 0, 1, 1, 0);
            r.call(6, "ends", 0, 1, 2, 1);
            r.call(1, "ends", 0, 1, 0, 0);
            r.call(1, "ends", 1, 1, 1, 0);
            r.land("sheet a cells 6 saves 0;", 1);
            r.call(0, "ends", 0, 1, 63, 0);
            r.call(1, "ends", 0, 1, 64, 0);
            r.land("mark p;", 1);
            r.call(1, "ends", 0, 1, 1, 0);
            r.call(1, "ends", 0, 1, 0, 0);
        }).sees("private boolean isSetOfCells", "isWithin(set, 1,", "isWithin(set, 0,")
            .sees("private boolean isSetOfCells", "(1 << ground.cells) - 1", "1 << ground.cells")
            .sees("public int ends", "isOneOf(what, 2)", "isOneOf(what, 3)")
            .sees("public int ends", "if (walk.count == 0) { return refuse(NONE_SUCH); }", "")
            .sees("public int ends", "what == 0 ? walk.least : walk.most", "what == 1 ? walk.least : walk.most");
    }

    private static void first(Book book) {
        book.says("the first: CELL by CELL the lesser number.", r -> {
            r.land("sheet a cells 3 saves 0;mark p;moves a 0 p 1;moves a 1 p 1;moves a 2 p 1;near a 0 a 2;", 6);
            r.rows(0, 0, 0, 0, 1, 20);
            first(r, 2, 9, 9);
            r.rows(0, 0, 1, 10);
            first(r, 0, 1, 9);
            r.rows(0, 0, 1, 9);
            first(r, 0, 0, 9);
            r.rows(0, 0, 1, 0);
            first(r, 0, 0, 0);
            r.call(0, "smooth", 4);
            r.rows(0, 0, 1, 16);
            first(r, 2, 8, 6);
            r.rows(0, 0, 1, 27);
            first(r, 9, 9, 9);
            r.rows(0, 1, 1, 3);
            first(r, 0, 0, 2);
            r.land("sheet a cells 3 saves 0;", 1);
            first(r, 0, 0, 0);
        }).sees("private void visit", "for (int number = from[cell]; number <= last && !(once && count > 0); number++)",
                "for (int number = to[cell], least = from[cell]; number >= least && !(once && count > 0); number--)")
            .sees("private void takeLast", "asked.put(cell, from[cell]);", "asked.put(cell, to[cell]);");

        book.says("`int first(int from, int to, int cell)`: What a CELL slips in the first SLIPS (1; 6).", r -> {
            r.call(1, "first", 0, 1, 0);
            r.land(PAIR, 6);
            r.rows(1, 0, 0, 0, 1, 9);
            r.is("CELL 0", r.x.first(0, 1, 0), 0);
            r.is("CELL 1", r.x.first(0, 1, 1), 9);
            for (int cell : new int[] {LEAST_INT, -1, 2, MOST_INT}) {
                r.call(1, "first", 0, 1, cell);
            }
            r.call(0, "smooth", 8);
            r.is("CELL 0 beside it", r.x.first(0, 1, 0), 1);
            r.rows(1, 0, 1, 10);
            r.call(6, "first", 0, 1, 0);
            r.call(6, "first", 0, 1, 1);
            r.call(1, "first", 0, 1, 2);
            r.call(1, "first", 1, 1, 0);
        }).sees("public int first", "!isCell(cell)", "!isOneOf(cell, CELLS_MOST)")
            .sees("public int first", "return refuse(NONE_SUCH);", "return answer(walk.firstSlips[cell]);")
            .sees("public int first", "asked.moved, smoothness)", "asked.moved, SLIP_MOST)");
    }

    private static void first(Run r, int... slips) {
        for (int cell = 0; cell < slips.length; cell++) {
            r.is("first of CELL " + cell, r.x.first(0, 1, cell), slips[cell]);
        }
    }

    private static void corner(Book book) {
        book.says("CORNER: the least SMOOTH with which there are SLIPS.", r -> {
            r.land(PAIR, 6);
            r.rows(0, 0, 0, 0, 1, 0);
            r.rows(1, 0, 0, 0);
            for (int much = 0; much <= 9; much++) {
                r.rows(1, 0, 1, much);
                r.call(0, "smooth", 9 - much);
                r.is("corner of 0 and " + much, r.x.corner(0, 1), much);
                r.is("it is not set", r.x.slips(0, 1), 9 - much >= much ? 1 : 0);
            }
            r.rows(1, 0, 1, 10);
            r.call(6, "corner", 0, 1);
            r.is("none asked", r.x.corner(1, 2), 0);
        }).sees("public int corner", "int much = 0;", "int much = 1;")
            .sees("public int corner", "much <= SLIP_MOST", "much < SLIP_MOST")
            .sees("public int corner", "walk.finds(asked, asked.moved, much)", "much >= smoothness && walk.finds(asked, asked.moved, much)")
            .sees("public int corner", "return answer(much);", "smoothness = much; return answer(much);");

        book.says("`int corner(int from, int to)`: CORNER between two YEARS (1; 6: none; also no CELLS).", r -> {
            r.call(6, "corner", 0, 1);
            r.call(1, "corner", 1, 0);
            r.land("mark p;", 1);
            r.call(6, "corner", 0, 19);
            r.call(1, "corner", 0, 20);
            r.call(1, "corner", -1, 1);
            r.land(PAIR, 6);
            r.is("0", r.x.corner(0, 1), 0);
            r.rows(0, 0, 0, 0, 1, -1);
            r.call(6, "corner", 0, 1);
            r.call(1, "corner", 1, 1);
        }).sees("public int corner", "if (ground.cells == 0) { return refuse(NONE_SUCH); }", "if (ground.cells == 0) { return answer(0); }")
            .sees("public int corner", "} } return refuse(NONE_SUCH);", "} } return answer(NONE);")
            .sees("public int corner", "if (!areYears(from, to)) {", "if (ground.cells == 0) { return refuse(NONE_SUCH); } if (!areYears(from, to)) {");
    }

    private static void odds(Book book) {
        book.says("ODDS: of all SLIPS those in which a set of CELLS slips at least n (0 to 54) together, by all: a FRACTION.", r -> {
            r.land("sheet a cells 6 saves 0;mark p;moves a 0 p 1;", 3);
            r.fraction("at least 0", r.x.odds(0, 1, 63, 0), 1, 1);
            r.fraction("at least 1", r.x.odds(0, 1, 63, 1), 999999, 1000000);
            r.fraction("at least 53", r.x.odds(0, 1, 63, 53), 7, 1000000);
            r.fraction("at least 54", r.x.odds(0, 1, 63, 54), 1, 1000000);
            r.fraction("five at least 46", r.x.odds(0, 1, 31, 46), 0, 1);
            r.fraction("five at least 45", r.x.odds(0, 1, 31, 45), 1, 100000);
            r.fraction("one at least 9", r.x.odds(0, 1, 32, 9), 1, 10);
            r.fraction("one at least 10", r.x.odds(0, 1, 32, 10), 0, 1);
            r.rows(0, 0, 0, 0, 1, 4);
            r.fraction("CELL 0 at least 4", r.x.odds(0, 1, 1, 4), 1, 1);
            r.fraction("CELL 0 at least 5", r.x.odds(0, 1, 1, 5), 0, 1);
            r.fraction("CELLS 0 and 1 at least 9", r.x.odds(0, 1, 3, 9), 1, 2);
            Run s = r.again();
            s.land(PAIR, 6);
            s.call(0, "smooth", 2);
            // of 44 pairs: 9 stands with 7 to 9, 8 with 6 to 9
            s.fraction("the first of a pair at least 9", s.x.odds(0, 1, 1, 9), 3, 44);
            s.fraction("the first of a pair at least 8", s.x.odds(0, 1, 1, 8), 7, 44);
            s.fraction("both at least 18", s.x.odds(0, 1, 3, 18), 1, 44);
            s.fraction("both at least 17", s.x.odds(0, 1, 3, 17), 3, 44);
            s.fraction("both at least 19", s.x.odds(0, 1, 3, 19), 0, 1);
            for (int least : new int[] {LEAST_INT, -1, 55, MOST_INT}) {
                r.call(1, "odds", 0, 1, 1, least);
            }
        }).sees("public int odds", "isWithin(least, 0, TOGETHER_MOST)", "isWithin(least, 1, TOGETHER_MOST)")
            .sees("public int odds", "isWithin(least, 0, TOGETHER_MOST)", "isWithin(least, -1, TOGETHER_MOST)")
            .sees("public int odds", "isWithin(least, 0, TOGETHER_MOST)", "isWithin(least, 0, TOGETHER_MOST - 1)")
            .sees("public int odds", "isWithin(least, 0, TOGETHER_MOST)", "isWithin(least, 0, TOGETHER_MOST + 1)")
            .sees("public int odds", "tell(walk.reached, walk.count)", "tell(walk.count - walk.reached, walk.count)")
            .sees("private void takeAnyFrom", "waysToReach(inSet, need - together)", "waysToReach(inSet, need - together + 1)")
            .sees("private void takeAnyFrom", "* waysToReach(outside, 0)", "")
            .sees("private void takeLast", "together >= need", "together > need")
            .sees("private void takeLast", "reached += Math.max(0,", "reached += Math.max(1,");

        book.says("`int odds(int from, int to, int cells, int least)`: The FRACTION is ODDS (1: also an empty set of CELLS; 6: no SLIPS).", r -> {
            r.call(1, "odds", 0, 1, 1, 0);
            r.land(PAIR, 6);
            r.rows(0, 0, 0, 0, 1, 6);
            r.call(0, "smooth", 2);
            // CELL 1 is 4 to 8
            r.fraction("at least 8", r.x.odds(0, 1, 2, 8), 1, 5);
            r.fraction("both at least 12", r.x.odds(0, 1, 3, 12), 3, 5);
            r.call(1, "odds", 0, 1, 0, 0);
            r.call(1, "odds", 0, 1, 4, 0);
            r.call(1, "odds", 0, 1, -1, 0);
            r.call(1, "odds", 0, 1, LEAST_INT, 0);
            r.call(1, "odds", 0, 1, MOST_INT, 0);
            r.rows(0, 0, 1, 10);
            r.call(6, "odds", 0, 1, 1, 0);
            r.call(6, "odds", 0, 1, 2, 54);
            r.call(1, "odds", 0, 1, 0, 0);
            r.call(1, "odds", 0, 1, 1, 55);
            r.due("the FRACTION told latest: its top", r.x.top(), 3);
            r.due("its bottom", r.x.bottom(), 5);
            r.land("mark p;", 1);
            r.call(1, "odds", 0, 1, 1, 0);
        }).sees("public int odds", "!isSetOfCells(cells)", "!isOneOf(cells, 1 << ground.cells)")
            .sees("public int odds", "if (walk.count == 0) { return refuse(NONE_SUCH); }", "if (walk.count == 0) { return tell(0, 1); }")
            .sees("private void takeLast", "need - together) + 1)", "need - together))")
            .sees("private void takeLast", "to[cell] - Math.max(from[cell], need - together)", "to[cell] - Math.max(from[cell], need)");
    }
}
