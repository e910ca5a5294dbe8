/** What the document says of QUARRELS, of MARKS LEFT out, of RANK, HIDDEN and APART: promises 26 to 29. */
final class QuarrelWords {
    private static final int LEAST_INT = Integer.MIN_VALUE;
    private static final int MOST_INT = Integer.MAX_VALUE;
    /** Two CELLS: three MARKS of the first, one of the second, one of none. */
    private static final String LAND = "sheet a cells 2 saves 0;mark p;mark q;mark s;mark t;mark u;near a 0 a 1;moves a 0 p 1;moves a 0 q 1;moves a 0 s 1;moves a 1 t 1;";

    private QuarrelWords() {
    }

    static void tell(Book book) {
        fewest(book);
        setAndRivals(book);
        quarrelCall(book);
        without(book);
        ranks(book);
        rankCall(book);
        apart(book);
    }

    private static void quarrel(Run r, int fewest, int set, int rivals) {
        r.is("fewest", r.x.quarrel(0, 1, 0), fewest);
        r.is("the first set", r.x.quarrel(0, 1, 1), set);
        r.is("RIVALS", r.x.quarrel(0, 1, 2), rivals);
    }

    private static void fewest(Book book) {
        book.says("QUARREL: the fewest MARKS (of those that MOVED between the two YEARS) with which alone (the others not asked) there are no SLIPS", r -> {
            r.land(LAND, 11);
            r.rows(0, 0, 0, 0, 1, 3);
            r.call(6, "quarrel", 0, 1, 0);
            r.rows(1, 0, 1, 4);
            r.call(6, "quarrel", 0, 1, 0);
            r.rows(1, 0, 0, 0);
            quarrel(r, 2, 3, 1);
            r.call(6, "quarrel", 1, 2, 0);
            r.rows(3, 0, 0, 0, 1, 9);
            quarrel(r, 2, 3, 1);
            r.call(0, "smooth", 5);
            quarrel(r, 2, 3, 2);
            r.rows(2, 0, 0, 0, 1, 10);
            quarrel(r, 1, 4, 1);
            r.rows(2, 0, 1, 9);
            r.rows(4, 0, 0, 0, 1, 1);
            quarrel(r, 1, 16, 1);
            three(r.again());
            eight(r.again());
        }).sees("private void prepare", "ledger.has[from] && ledger.has[to]", "ledger.has[to]")
            .sees("private void findQuarrel", "(marks & ~asked.moved) == 0 && !met[marks]", "!met[marks]")
            .sees("private void findQuarrel", "smooth = newSmooth;", "smooth = SLIP_MOST;")
            .sees("private void noteUnmet", "if (size < quarrelSize)", "if (size > quarrelSize || quarrelSize > MARKS_MOST)")
            .sees("private void findQuarrel", "quarrelSize = MARKS_MOST + 1;", "quarrelSize = MARKS_MOST;")
            .sees("private int stillWithin", ">= low[mark]", "> low[mark]")
            .sees("private int stillWithin", "<= high[mark]", "< high[mark]");
    }

    /** 3 and 3 are not 7 together, but any two of them can be. */
    private static void three(Run r) {
        r.land("sheet a cells 2 saves 0;mark p;mark q;mark s;moves a 0 p 1;moves a 1 q 1;moves a 0 s 1;moves a 1 s 1;", 8);
        r.rows(0, 0, 0, 0, 1, 3);
        r.rows(1, 0, 0, 0, 1, 3);
        r.rows(2, 0, 0, 0, 1, 7);
        quarrel(r, 3, 7, 1);
    }

    /** Each MARK shuts out one corner of a cube alone; all that is not of the cube is shut out by some. */
    private static void eight(Run r) {
        int[][] units = {{1, 1, 1}, {1, -1, -1}, {-1, 1, -1}, {1, 1, -1}, {-1, -1, 1}, {1, -1, 1}, {-1, 1, 1}, {-1, -1, -1}};
        int[] most = {2, 0, 0, 1, 0, 1, 1, -1};
        StringBuilder text = new StringBuilder("sheet a cells 3 saves 0;");
        for (int mark = 0; mark < 8; mark++) {
            text.append("mark ").append((char) ('k' + mark)).append(';');
        }
        for (int mark = 0; mark < 8; mark++) {
            for (int cell = 0; cell < 3; cell++) {
                text.append("moves a " + cell + " " + (char) ('k' + mark) + " " + units[mark][cell] + ";");
            }
        }
        r.land(text.toString(), 33);
        for (int mark = 0; mark < 8; mark++) {
            r.rows(mark, 200, 0, 0, 1, most[mark] - 400);
        }
        quarrel(r, 8, 255, 1);
    }

    private static void setAndRivals(Book book) {
        book.says("the first set (1 for MARK 0, 2 for 1 ..), the least", r -> {
            r.land(LAND, 11);
            r.rows(1, 0, 0, 0, 1, 3);
            r.rows(2, 0, 0, 0, 1, 4);
            quarrel(r, 2, 6, 1);
            r.rows(0, 0, 0, 0, 1, 4);
            quarrel(r, 2, 3, 2);
            r.rows(0, 0, 1, 3);
            quarrel(r, 2, 5, 2);
            r.rows(4, 0, 0, 0, 1, 1);
            quarrel(r, 1, 16, 1);
            r.rows(3, 0, 0, 0, 1, -1);
            quarrel(r, 1, 8, 2);
        }).sees("private void noteUnmet", "if (size < quarrelSize)", "if (size <= quarrelSize)")
            .sees("public int quarrel", "what == 1 ? walk.quarrelSet", "what == 1 ? walk.quarrelSet << 1");

        book.says("RIVALS: how many sets of so many.", r -> {
            r.land(LAND, 11);
            r.rows(0, 0, 0, 0, 1, 3);
            r.rows(1, 0, 0, 0, 1, 4);
            quarrel(r, 2, 3, 1);
            r.rows(2, 0, 0, 0, 1, 5);
            quarrel(r, 2, 3, 3);
            r.rows(3, 0, 0, 0, 1, 9);
            quarrel(r, 2, 3, 3);
            r.call(0, "smooth", 4);
            quarrel(r, 2, 3, 5);
            r.call(0, "smooth", 3);
            quarrel(r, 2, 3, 6);
            r.rows(4, 0, 0, 0, 1, 1);
            quarrel(r, 1, 16, 1);
            r.rows(4, 0, 1, 0);
            r.rows(0, 0, 1, 10);
            r.rows(1, 0, 1, 10);
            r.rows(2, 0, 1, 10);
            r.rows(3, 0, 1, 10);
            quarrel(r, 1, 1, 4);
            r.call(6, "quarrel", 1, 2, 2);
        }).sees("private void noteUnmet", "quarrelSet = marks; rivals = 0;", "quarrelSet = marks;")
            .sees("private void noteUnmet", "if (size == quarrelSize)", "if (size >= quarrelSize)")
            .sees("private void findQuarrel", "rivals = 0;", "");
    }

    private static void quarrelCall(Book book) {
        book.says("`int quarrel(int from, int to, int what)`: QUARREL between two YEARS, what 0: the fewest, 1: the first set, 2: RIVALS "
            + "(1; 6: there are SLIPS with all of them; also no CELLS).", r -> {
            r.call(6, "quarrel", 0, 1, 0);
            r.call(1, "quarrel", 1, 1, 0);
            r.call(1, "quarrel", 0, 1, 3);
            r.land("mark p;", 1);
            r.rows(0, 0, 0, 0, 1, 5);
            r.call(6, "quarrel", 0, 1, 0);
            r.call(1, "quarrel", 0, 1, -1);
            r.land(LAND, 11);
            r.call(6, "quarrel", 0, 1, 2);
            r.rows(1, 0, 0, 0, 1, 9);
            r.call(6, "quarrel", 0, 1, 1);
            r.rows(1, 0, 1, 10);
            quarrel(r, 1, 2, 1);
            for (int what : new int[] {LEAST_INT, -1, 3, MOST_INT}) {
                r.call(1, "quarrel", 0, 1, what);
            }
            r.call(1, "quarrel", 1, 0, 0);
            r.call(1, "quarrel", 0, 20, 0);
        }).sees("public int quarrel", "isOneOf(what, 3)", "isOneOf(what, 4)")
            .sees("public int quarrel", "isOneOf(what, 3)", "isOneOf(what, 2)")
            .sees("public int quarrel", "if (walk.rivals == 0) { return refuse(NONE_SUCH); }", "")
            .sees("public int quarrel", "if (ground.cells == 0) { return refuse(NONE_SUCH); }", "")
            .sees("public int quarrel", "if (!areYears(from, to)", "if (ground.cells == 0) { return refuse(NONE_SUCH); } if (!areYears(from, to)");
    }

    private static void without(Book book) {
        book.says("LEFT out: whether without a MARK there are SLIPS.", r -> {
            r.land(LAND, 11);
            r.is("none asked", r.x.without(0, 1, 0), 1);
            r.rows(0, 0, 0, 0, 1, 3);
            r.rows(1, 0, 0, 0, 1, 4);
            r.is("one of two", r.x.without(0, 1, 0), 1);
            r.is("the other", r.x.without(0, 1, 1), 1);
            r.is("one that is not asked", r.x.without(0, 1, 4), 0);
            r.rows(4, 0, 2, 0, 3, 5);
            r.is("one that quarrels alone between others", r.x.slips(2, 3), 0);
            r.rows(0, 0, 2, 5);
            r.is("is not asked here", r.x.without(1, 2, 4), 1);
            r.rows(3, 0, 0, 0, 1, 9);
            r.is("one of another CELL", r.x.without(0, 1, 3), 0);
            r.call(0, "smooth", 5);
            r.is("with SMOOTH: 4 and 9", r.x.without(0, 1, 0), 1);
            r.is("with SMOOTH: 3 and 9", r.x.without(0, 1, 1), 0);
            r.rows(1, 0, 1, 10);
            r.is("one that quarrels alone, with SMOOTH", r.x.without(0, 1, 1), 0);
            r.call(0, "smooth", 6);
            r.is("one that quarrels alone", r.x.without(0, 1, 1), 1);
        }).sees("public int without", "asked.moved & ~(1 << mark)", "asked.moved")
            .sees("public int without", "asked.moved & ~(1 << mark)", "asked.moved ^ (1 << mark)")
            .sees("public int without", "asked.moved & ~(1 << mark)", "asked.moved & (1 << mark)")
            .sees("public int without", "others, smoothness", "others, SLIP_MOST");

        book.says("`int without(int from, int to, int mark)`: Whether without a MARK there are SLIPS: 1 or 0 (1; 6: no CELLS).", r -> {
            r.call(1, "without", 0, 1, 0);
            r.land("mark p;", 1);
            r.call(6, "without", 0, 1, 0);
            r.call(1, "without", 0, 1, 1);
            r.call(1, "without", 1, 1, 0);
            r.land(LAND, 11);
            r.is("1", r.x.without(0, 1, 4), 1);
            r.rows(0, 0, 0, 0, 1, 10);
            r.is("0, with STATUS 0", r.x.without(0, 1, 4), 0);
            for (int mark : new int[] {LEAST_INT, -1, 5, 32, MOST_INT}) {
                r.call(1, "without", 0, 1, mark);
            }
            r.call(1, "without", 1, 0, 0);
        }).sees("public int without", "|| !isMark(mark)", "")
            .sees("public int without", "!isMark(mark)", "mark < 0")
            .sees("public int without", "if (ground.cells == 0) { return refuse(NONE_SUCH); }", "")
            .sees("public int without", "? 1 : 0", "? 0 : 1");
    }

    private static void ranks(Book book) {
        book.says("RANK of a set of MARKS: of how many of them no one is a sum of others times numbers, by what units of the CELLS move them.", r -> {
            r.land("sheet a cells 4 saves 0;mark p;mark q;mark s;mark t;mark u;moves a 0 p 2;moves a 1 p 3;moves a 0 q -4;moves a 1 q -6;"
                + "moves a 1 s 1;moves a 0 t 2;moves a 1 t 4;moves a 3 t 0;", 14);
            int[] due = {0, 1, 1, 1, 1, 2, 2, 2, 1, 2, 2, 2, 2, 2, 2, 2};
            for (int set = 0; set < 16; set++) {
                r.is("rank of " + set, r.x.rank(set, 0), due[set]);
                r.is("with one that nothing moves", r.x.rank(set + 16, 0), due[set]);
            }
            r.land("sheet a cells 6 saves 0;" + marks() + "moves a 0 k 9;moves a 1 l 9;moves a 2 m -9;moves a 3 n 1;moves a 4 o 7;moves a 5 p 2;"
                + "moves a 0 q 1;moves a 5 q 9;moves a 1 r 1;moves a 2 r -1;moves a 3 r 1;", 20);
            for (int set = 0; set < 64; set++) {
                r.is("one for each", r.x.rank(set, 0), Integer.bitCount(set));
            }
            r.is("six at most", r.x.rank(255, 0), 6);
            r.is("two of two CELLS and of three", r.x.rank(192, 0), 2);
            allSets(r, new int[][] {{9, 9, 9, 9, 9, 8}, {9, -9, 9, -9, 8, 9}, {9, 9, -9, -8, 9, 9}, {9, -9, -8, 9, -9, 9}, {9, 8, 9, 9, -9, -9}, {8, 9, -9, 9, 9, -9}});
            allSets(r, new int[][] {{9, 9, 9, 9, 9, 8}, {9, -9, 9, -9, 8, 9}, {9, 9, -9, -8, 9, 9}, {9, -9, -8, 9, -9, 9}, {9, 0, 9, 0, 9, 8}, {0, 9, 0, 9, 0, 0}});
            // of eights alone, which wrap around to 0 soonest
            allSets(r, new int[][] {{8, 8, 8, 8, 8, 8}, {8, -8, 8, -8, 8, 8}, {8, 8, -8, -8, 8, 8}, {8, -8, -8, 8, -8, 8}, {8, 8, 8, 8, -8, -8}, {8, 8, -8, 8, 8, -8}});
            // three of which the others are the sums of two, or one less another
            allSets(r, new int[][] {{3, 1, -2, 4, 0, 5}, {1, -4, 3, 0, 2, -1}, {2, 2, -1, -3, 4, 1}, {4, -3, 1, 4, 2, 4}, {3, -2, 2, -3, 6, 0}, {1, -1, -1, 7, -4, 4}});
        }).sees("private void eliminate", "- table[pivotRow * CELLS_MOST + k] * head", "")
            .sees("private int rowWithout0", "!= 0", "> 0")
            .sees("private int of", "before = table[rank * CELLS_MOST + column];", "")
            .sees("private int of", "before = table[rank * CELLS_MOST + column];", "before = table[rank + CELLS_MOST + column];")
            .sees("private int of", "column < CELLS_MOST && rank < rows", "column < CELLS_MOST - 1 && rank < rows")
            .sees("private int of", "if (pivotRow < 0) { continue; }", "if (pivotRow < 0) { break; }")
            .sees("private int fill", "cell == cellLeftOut ? 0 : land.unit(cell, mark)", "cell == cellLeftOut ? 0 : Math.min(1, land.unit(cell, mark))");
    }

    private static String marks() {
        return "mark k;mark l;mark m;mark n;mark o;mark p;mark q;mark r;";
    }

    /** All sets of six MARKS in six CELLS. */
    private static void allSets(Run r, int[][] units) {
        Run s = r.again();
        s.land(sixBySix(units), 43);
        for (int set = 0; set < 64; set++) {
            s.is("rank of " + set, s.x.rank(set, 0), rankByPrime(units, set));
        }
    }

    /** RANK as by a prime that is greater than six numbers of -9 to 9 each can make a minor: none of them is 0 by it alone. */
    private static int rankByPrime(int[][] units, int set) {
        long prime = 2147483647;
        long[][] rows = new long[Integer.bitCount(set)][6];
        for (int mark = 0, row = 0; mark < 6; mark++) {
            for (int cell = 0; cell < 6 && (set >> mark & 1) != 0; cell++) {
                rows[row][cell] = Math.floorMod(units[mark][cell], prime);
            }
            row += set >> mark & 1;
        }
        int rank = 0;
        for (int cell = 0; cell < 6; cell++) {
            int pivot = rank;
            while (pivot < rows.length && rows[pivot][cell] == 0) {
                pivot++;
            }
            if (pivot == rows.length) {
                continue;
            }
            long[] found = rows[pivot];
            rows[pivot] = rows[rank];
            rows[rank] = found;
            for (int row = rank + 1; row < rows.length; row++) {
                long head = rows[row][cell];
                for (int k = 0; k < 6; k++) {
                    rows[row][k] = Math.floorMod(rows[row][k] * found[cell] % prime - found[k] * head % prime, prime);
                }
            }
            rank++;
        }
        return rank;
    }

    private static String sixBySix(int[][] units) {
        StringBuilder text = new StringBuilder("sheet a cells6saves0;");
        for (int mark = 0; mark < 6; mark++) {
            text.append("mark ").append((char) ('k' + mark)).append(';');
            for (int cell = 0; cell < 6; cell++) {
                text.append("moves a").append(cell).append((char) ('k' + mark)).append(units[mark][cell]).append(';');
            }
        }
        return text.toString();
    }

    private static void rankCall(Book book) {
        book.says("HIDDEN: how many CELLS there are less RANK.", r -> {
            r.is("of none", r.x.rank(0, 1), 0);
            r.land("sheet a cells 6 saves 0;mark p;mark q;moves a 0 p 1;moves a 0 q 2;", 5);
            r.is("no MARK", r.x.rank(0, 1), 6);
            r.is("one", r.x.rank(1, 1), 5);
            r.is("two that tell the same", r.x.rank(3, 1), 5);
            r.land("sheet a cells 1 saves 0;mark p;mark q;moves a 0 p 1;moves a 0 q 2;", 5);
            r.is("none is hidden", r.x.rank(3, 1), 0);
            r.land("mark p;mark q;", 2);
            r.is("no CELLS", r.x.rank(3, 1), 0);
        }).sees("public int rank", "ground.cells - found", "CELLS_MOST - found")
            .sees("public int rank", "ground.cells - found", "ground.marks - found");

        book.says("`int rank(int marks, int what)`: RANK of a set of MARKS (what 0), HIDDEN (1) (1: other bits, too).", r -> {
            r.is("the empty set ahead of any LAND", r.x.rank(0, 0), 0);
            r.call(1, "rank", 1, 0);
            r.land("sheet a cells 2 saves 0;mark p;mark q;mark s;moves a 0 p 1;moves a 1 s 1;", 6);
            r.is("all", r.x.rank(7, 0), 2);
            r.is("HIDDEN of one", r.x.rank(4, 1), 1);
            for (int set : new int[] {LEAST_INT, LEAST_INT + 7, -1, 8, 15, 256, 1 << 30, MOST_INT}) {
                r.call(1, "rank", set, 0);
                r.call(1, "rank", set, 1);
            }
            for (int what : new int[] {LEAST_INT, -1, 2, MOST_INT}) {
                r.call(1, "rank", 7, what);
            }
            r.land("sheet a cells 2 saves 0;" + marks(), 9);
            r.call(0, "rank", 255, 0);
            r.call(1, "rank", 256, 0);
        }).sees("private boolean isSetOfMarks", "isOneOf(set, 1 << ground.marks)", "isOneOf(set, 1 + (1 << ground.marks))")
            .sees("private boolean isSetOfMarks", "isOneOf(set, 1 << ground.marks)", "set < 1 << ground.marks")
            .sees("private boolean isSetOfMarks", "isOneOf(set, 1 << ground.marks)", "isOneOf(set, SETS_OF_MARKS)")
            .sees("private boolean isSetOfMarks", "isOneOf(set, 1 << ground.marks)", "isWithin(set, 1, (1 << ground.marks) - 1)")
            .sees("public int rank", "isOneOf(what, 2)", "isOneOf(what, 3)");
    }

    private static void apart(Book book) {
        book.says("APART is a CELL told by a set of MARKS, if RANK is 1 less without that CELL (none of its units moves a MARK then).", r -> {
            r.land("sheet a cells 4 saves 0;mark p;mark q;mark s;moves a 0 p 1;moves a 1 q 1;moves a 2 q 1;moves a 1 s 1;moves a 2 s -1;", 9);
            int[][] due = {{0, 0, 0, 0}, {1, 0, 0, 0}, {0, 0, 0, 0}, {1, 0, 0, 0}, {0, 0, 0, 0}, {1, 0, 0, 0}, {0, 1, 1, 0}, {1, 1, 1, 0}};
            for (int set = 0; set < 8; set++) {
                for (int cell = 0; cell < 4; cell++) {
                    r.is("apart(" + cell + ", " + set + ")", r.x.apart(cell, set), due[set][cell]);
                }
            }
        }).sees("public int apart", "== whole - 1", "== whole")
            .sees("public int apart", "== whole - 1", "<= whole")
            .sees("private int fill", "cell == cellLeftOut ? 0 :", "cell == cellLeftOut ? 1 :");

        book.says("`int apart(int cell, int marks)`: Whether a CELL is told APART by a set of MARKS: 1 or 0 (1).", r -> {
            r.call(1, "apart", 0, 0);
            r.land("mark p;", 1);
            r.call(1, "apart", 0, 1);
            r.land("sheet a cells 2 saves 0;mark p;mark q;moves a 1 q 9;", 4);
            r.is("1", r.x.apart(1, 2), 1);
            r.is("0", r.x.apart(0, 2), 0);
            r.is("the empty set", r.x.apart(1, 0), 0);
            for (int cell : new int[] {LEAST_INT, -1, 2, 6, MOST_INT}) {
                r.call(1, "apart", cell, 2);
            }
            for (int set : new int[] {LEAST_INT, -1, 4, 6, MOST_INT}) {
                r.call(1, "apart", 1, set);
            }
        }).sees("public int apart", "!isCell(cell) ||", "")
            .sees("public int apart", "|| !isSetOfMarks(marks)", "")
            .sees("public int apart", "!isCell(cell)", "!isOneOf(cell, CELLS_MOST)")
            .sees("public int apart", "? 1 : 0", "? 0 : 1");
    }
}
