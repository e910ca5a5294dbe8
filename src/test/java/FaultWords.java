/** What the document says of a LAND's FAULTS: '!' stands in a text where the FAULT's place is, and is taken out. */
final class FaultWords {
    private static final String LAND = "sheet a cells 3 saves 1;sheet b cells 2 saves 1;mark c;mark d;";
    private static final String EIGHT = "mark k;mark l;mark m;mark n;mark o;mark p;mark q;mark r;";

    private FaultWords() {
    }

    static void tell(Book book) {
        order(book);
        tokens(book);
        names(book);
        numbers(book);
        sums(book);
        tooMany(book);
        toldAlready(book);
    }

    private static void order(Book book) {
        book.says("FAULTS, the first along the text", r -> {
            r.faultyAt("mark k;mark !k;?", 3);
            r.faultyAt("!?mark k;mark k;", 1);
            r.faultyAt("sheet a cells !7 saves 1000;", 4);
            r.faultyAt("sheet a !saves 7;?", 2);
            r.faultyAt(LAND + "moves a !3 x 99;", 4);
            r.faultyAt(LAND + "moves a 0 !x 99;", 3);
            r.faultyAt(LAND + "moves a 0 c 99!?;", 1);
            r.faultyAt(LAND + "moves a 0 c 99!);", 2);
            r.faultyAt(LAND + "moves a 0 c !99;?", 5);
            r.faultyAt(LAND + "near a 0 b 0;near b 0 a !9;", 4);
            r.faultyAt(EIGHT + "mark !z ?", 6);
            r.faultyAt("sheet a cells 6 saves 1;sheet b cells !1 saves 1000;", 6);
        }).sees("private boolean fail", "if (fault == 0) {", "{")
            .sees("private boolean readMoves", "if (fault != 0 || !seesEnd())", "if (sum < -9 || sum > 9) { return fail(5, sumStart); } if (fault != 0 || !seesEnd())")
            .sees("private boolean readSheet", "if (draft.cells + more > CELLS_MOST) { return fail(6, start); } advance();", "int numberAt = start; advance();"
                + " if (draft.cells + more > CELLS_MOST && kind == NO_TOKEN) { return fail(6, numberAt); } if (isWord(\"saves\") && draft.cells + more > CELLS_MOST)"
                + " { advance(); return seesNumber(0, 999) && fail(6, numberAt); }");

        book.says("(of one TOKEN the least kind)", r -> {
            r.faultyAt("mark !12345;", 1);
            r.faultyAt(EIGHT + "mark !k;", 3);
            r.faultyAt(EIGHT + "mark !from;", 2);
            r.faultyAt(EIGHT + "mark !abcdefghi;", 2);
            r.faultyAt("sheet a cells 6 saves 1;sheet b cells !7 saves 1;", 4);
            r.faultyAt("sheet a cells 6 saves 1;sheet b cells !0 saves 1;", 4);
            r.faultyAt("sheet a cells 6 saves 1;sheet b cells !x saves 1;", 2);
            r.faultyAt("sheet a cells 6 saves 1;sheet b cells !00001 saves 1;", 1);
        }).sees("private boolean readMark", "if (!seesNewName()) { return false; } if (draft.marks >= MARKS_MOST) { return fail(6, start); }",
                "if (draft.marks >= MARKS_MOST) { return fail(6, start); } if (!seesNewName()) { return false; }")
            .sees("private boolean readSheet", "|| !seesNumber(1, CELLS_MOST)) { return false; }",
                "|| (kind == NUMBER && draft.cells + number > CELLS_MOST && !fail(6, start)) || !seesNumber(1, CELLS_MOST)) { return false; }")
            .sees("private boolean seesNewName", "if (!isName())", "if (!isName() && kind == NO_TOKEN) { fault = 0; } if (!isName())");
    }

    private static void tokens(Book book) {
        book.says("1 no TOKEN begins so", r -> {
            for (char c : new char[] {0, 9, 11, 13, 31, 33, '"', '\'', ',', '.', '/', ':', '<', '=', '@', 'A', 'Z', '[', '_', '`', '{', '~', 127, 128, 138, 160, 223, 255}) {
                r.again().faulty("" + c, 1, 0);
                r.again().faulty("mark" + c + "a;", 1, 4);
                r.again().faulty("mark a" + c + ";", 1, 6);
                r.again().faulty("mark a; \n" + c, 1, 9);
                r.again().faulty("sheet a cells 1" + c + "saves 0;", 1, 15);
            }
        }).sees("kind = NO_TOKEN;", "fail(1, start);", "fail(2, start);")
            .sees("private static boolean isSignByte", "b == ')'", "b == ')' || b == ','")
            .sees("private static boolean isLetter", "b >= 'a'", "(b & 127) >= 'a'");

        book.says("(a NUMBER of 5 digits and more: at its first)", r -> {
            r.faultyAt("!12345", 1);
            r.faultyAt("!00000", 1);
            r.faultyAt("sheet a cells !00001 saves 1;", 1);
            r.faultyAt("sheet a cells 1 saves !000000999;", 1);
            r.faultyAt("sheet a cells !0000 saves 1;", 4);
            r.faultyAt(LAND + "moves a 0 c 1+!99999999999999999999;", 1);
            r.land(LAND + "moves a 0 c 9999-9990;", 5);
        }).sees("private void scanNumber", "if (stop - start > DIGITS_MOST)", "if (stop - start >= DIGITS_MOST)")
            .sees("private void scanNumber", "kind = NO_TOKEN; fail(1, start);", "kind = NO_TOKEN; fail(1, start + DIGITS_MOST);")
            .sees("private void scanNumber", "if (stop - start > DIGITS_MOST)", "if (stop - start == DIGITS_MOST + 1)");

        book.says("2 it can't stand there", r -> {
            r.faultyAt("!cells", 2);
            r.faultyAt("!marks a;", 2);
            r.faultyAt("!park a;", 2);
            r.faultyAt("!marc a;", 2);
            r.faultyAt("!ark a;", 2);
            r.faultyAt("sheet a !bells 1 saves 1;", 2);
            r.faultyAt("sheet a cells 1 !saved 1;", 2);
            r.faultyAt("mark a;!b;", 2);
            r.faultyAt("mark !;", 2);
            r.faultyAt("mark a !a;", 2);
            r.faultyAt("sheet a cells !-1 saves 1;", 2);
            r.faultyAt("sheet a cells 1 saves !(1);", 2);
            r.faultyAt(LAND + "near a !-1 b 0;", 2);
            r.faultyAt(LAND + "near a 0 !1;", 2);
            r.faultyAt(LAND + "near a 0 b 1!+1;", 2);
            r.faultyAt(LAND + "moves a 0 c !d;", 2);
            r.faultyAt(LAND + "stuck a 0 from 0 !from 1;", 2);
        }).sees("private boolean readPart", "return fail(2, start);", "return fail(1, start);")
            .sees("private boolean isWord", "int i = 0;", "int i = 1;")
            .sees("private boolean isWord", "i < word.length()", "i < word.length() - 1")
            .sees("private boolean isWord", "stop - start != word.length()", "stop - start < word.length()")
            .sees("private boolean passWord", "return fail(2, start);", "return fail(3, start);")
            .sees("private boolean seesNumber", "return fail(2, start);", "return fail(4, start);")
            .sees("private boolean seesEnd", "fail(2, start)", "fail(2, stop)")
            .sees("private boolean seesNewName", "return fail(2, start);", "return fail(3, start);")
            .sees("private int seeCell", "fail(2, start);", "fail(3, start);")
            .sees("private long readAtom", "fail(2, start);", "fail(5, start);");

        book.says("(the end: the text's length)", r -> {
            r.faulty("mark", 2, 4);
            r.faulty("mark \n ", 2, 7);
            r.faulty("mark a", 2, 6);
            r.faulty(LAND + "near a 0 b", 2, LAND.length() + 10);
            r.faulty(LAND + "moves a 0 c (1 ", 2, LAND.length() + 15);
            r.faulty(LAND + "moves a 0 c 99", 2, LAND.length() + 14);
            r.faulty(LAND + "near a 0 b 0;near a 0 b 0", 2, LAND.length() + 25);
            r.feed("mark a;mark b;");
            r.none("land(13)", r.x.land(13), 9);
            r.due("fault(0)", r.x.fault(0), 2);
            r.due("the text's length, not the tape's", r.x.fault(1), 13);
        }).sees("private void advance", "kind = END;", "kind = END; start = Math.max(0, end - 1);")
            .sees("private int readParts", "end = n;", "end = n + 1;")
            .sees("private void advance", "kind = END;", "kind = END; while (start > 0 && (text[start - 1] == 10 || text[start - 1] == 32)) { start--; }");
    }

    private static void names(Book book) {
        book.says("3 a NAME there is already (of sheet, of mark: of any SHEET or MARK)", r -> {
            r.faultyAt("mark k;mark !k;", 3);
            r.faultyAt("sheet k cells 1 saves 1;sheet !k cells 1 saves 1;", 3);
            r.faultyAt("sheet k cells 1 saves 1;mark !k;", 3);
            r.faultyAt("mark k;sheet !k cells 1 saves 1;", 3);
            r.faultyAt("mark k;mark l;sheet a cells 1 saves 1;mark !k;", 3);
            r.faultyAt("sheet u cells 1 saves 1;sheet v cells 1 saves 1;sheet w cells 1 saves 1;sheet x cells 1 saves 1;sheet y cells 1 saves 1;"
                + "sheet z cells 1 saves 1;" + EIGHT.substring(0, 49) + "mark !q;", 3);
            r.land("sheet k cells 1 saves 1;mark kk;mark kkk;mark l;", 4);
            r.land("mark k;", 1);
            r.land("mark k;", 1);
        }).sees("private boolean seesNewName", "fail(3, start)", "true")
            .sees("private boolean seesNewName", "fail(3, start)", "fail(6, start)")
            .sees("private boolean readMark", "names.add(nameStart, nameStop, draft.marks, 0);", "")
            .sees("private boolean readSheet", "names.add(nameStart, nameStop, draft.cells, more);", "")
            .sees("private int find", "i < size", "i < size - 1");

        book.says("that is not one told ahead (of near, stuck and of moves' first: a SHEET; of moves' second: a MARK).", r -> {
            for (String other : new String[] {"c", "x", "aa"}) {
                r.faultyAt(LAND + "near !" + other + " 0 b 0;", 3);
                r.faultyAt(LAND + "near a 0 !" + other + " 0;", 3);
                r.faultyAt(LAND + "stuck !" + other + " 0 from 1 to 2;", 3);
                r.faultyAt(LAND + "moves !" + other + " 0 c 1;", 3);
            }
            r.faultyAt(LAND + "moves a 0 !b 1;", 3);
            r.faultyAt(LAND + "moves a 0 !x 1;", 3);
            r.faultyAt(LAND + "moves a 0 !cc 1;", 3);
            r.faultyAt("sheet a cells 1 saves 1;moves a 0 !a 1;", 3);
            r.faultyAt("sheet a cells 1 saves 1;moves a 0 !b 1;mark b;", 3);
            r.faultyAt("mark b;moves !a 0 b 1;sheet a cells 1 saves 1;", 3);
            r.faultyAt("stuck !a 0 from 1 to 2;", 3);
        }).sees("private int seeCell", "|| names.cellsOf[sheet] == 0", "")
            .sees("private int seeCell", "fail(3, start);", "fail(2, start);")
            .sees("private boolean readMoves", "|| names.cellsOf[named] > 0", "")
            .sees("private boolean readMoves", "names.cellsOf[named] > 0", "names.cellsOf[named] > 1")
            .sees("private boolean readMoves", "return fail(3, start);", "return fail(2, start);");
    }

    private static void numbers(Book book) {
        book.says("4 a NUMBER that can't be: of cells 1 to 6", r -> {
            r.faultyAt("sheet a cells !0 saves 1;", 4);
            r.faultyAt("sheet a cells !7 saves 1;", 4);
            r.faultyAt("sheet a cells !9999 saves 1;", 4);
            r.faultyAt("sheet a cells !0 ?", 4);
            r.land("sheet a cells 1 saves 1;", 1);
            r.is("one", r.x.many(0), 1);
            r.land("sheet a cells 6 saves 1;", 1);
            r.is("six", r.x.many(0), 6);
        }).sees("private boolean readSheet", "seesNumber(1, CELLS_MOST)", "seesNumber(0, CELLS_MOST)")
            .sees("private boolean readSheet", "seesNumber(1, CELLS_MOST)", "seesNumber(1, CELLS_MOST + 1)")
            .sees("private boolean readSheet", "seesNumber(1, CELLS_MOST)", "seesNumber(1, CELLS_MOST - 1)")
            .sees("private boolean readSheet", "seesNumber(1, CELLS_MOST)", "seesNumber(2, CELLS_MOST)");

        book.says("of saves 0 to 999", r -> {
            r.faultyAt("sheet a cells 1 saves !1000;", 4);
            r.faultyAt("sheet a cells 1 saves !9999;", 4);
            r.faultyAt("sheet a cells 1 saves !1000 ?", 4);
            r.land("sheet a cells 1 saves 999;", 1);
            r.land("sheet a cells 1 saves 0;", 1);
        }).sees("private boolean readSheet", "seesNumber(0, 999)", "seesNumber(0, 1000)")
            .sees("private boolean readSheet", "seesNumber(0, 999)", "seesNumber(0, 998)")
            .sees("private boolean readSheet", "seesNumber(0, 999)", "seesNumber(1, 999)");

        book.says("a CELL that the SHEET has not", r -> {
            r.faultyAt(LAND + "near a !3 b 0;", 4);
            r.faultyAt(LAND + "near a 0 b !2;", 4);
            r.faultyAt(LAND + "moves b !2 c 1;", 4);
            r.faultyAt(LAND + "stuck b !2 from 1 to 2;", 4);
            r.faultyAt(LAND + "stuck b !9999 from 1 to 2;", 4);
            r.land(LAND + "near a 2 b 1;moves b 1 c 1;stuck b 1 from 1 to 2;", 7);
        }).sees("private int seeCell", "names.cellsOf[sheet] - 1", "names.cellsOf[sheet]")
            .sees("private int seeCell", "names.cellsOf[sheet] - 1", "draft.cells - 1 - names.numbers[sheet]")
            .sees("private int seeCell", "names.cellsOf[sheet] - 1", "names.cellsOf[sheet] - 2");

        book.says("of near the second CELL, if it is the first one (at its NUMBER)", r -> {
            r.faultyAt(LAND + "near a 1 a !1;", 4);
            r.faultyAt(LAND + "near b 0 b !0;", 4);
            r.faultyAt(LAND + "near b 0 b !000;", 4);
            r.faultyAt(LAND + "near a 1 a !1 ?", 4);
            r.land(LAND + "near a 1 b 1;near a 0 b 0;near a 0 a 1;near b 1 a 2;", 8);
        }).sees("private boolean readNear", "if (other == one)", "if (false)")
            .sees("private boolean readNear", "return fail(4, start);", "return fail(4, begin);")
            .sees("private boolean readNear", "if (other == one)", "if (other <= one)");

        book.says("of stuck 0 to 100, the second one not below the first one.", r -> {
            r.faultyAt(LAND + "stuck a 0 from !101 to 101;", 4);
            r.faultyAt(LAND + "stuck a 0 from 0 to !101;", 4);
            r.faultyAt(LAND + "stuck a 0 from 50 to !49;", 4);
            r.faultyAt(LAND + "stuck a 0 from 100 to !99;", 4);
            r.faultyAt(LAND + "stuck a 0 from 1 to !0;", 4);
            r.land(LAND + "stuck a 0 from 0 to 0;stuck a 1 from 100 to 100;stuck a 2 from 50 to 50;stuck b 0 from 0 to 100;stuck b 1 from 49 to 50;", 9);
        }).sees("private boolean readStuck", "seesNumber(0, 100)", "seesNumber(0, 101)")
            .sees("private boolean readStuck", "seesNumber(0, 100)", "seesNumber(0, 99)")
            .sees("private boolean readStuck", "seesNumber(0, 100)", "seesNumber(1, 100)")
            .sees("private boolean readStuck", "seesNumber(least, 100)", "seesNumber(0, 100)")
            .sees("private boolean readStuck", "seesNumber(least, 100)", "seesNumber(least + 1, 100)")
            .sees("private boolean readStuck", "seesNumber(least, 100)", "seesNumber(least, 101)");
    }

    private static void sums(Book book) {
        book.says("5 brackets, or - ATOM, within six others (at the ( or -)", r -> {
            r.land(LAND + "moves a 0 c ((((((3))))));", 5);
            r.land(LAND + "moves a 0 c ------3;", 5);
            r.land(LAND + "moves a 0 c -(-(-(3)));", 5);
            r.land(LAND + "moves a 0 c ((((((1-1-1))))))-((((((1))))))*------2;", 5);
            r.is("-1-2", r.x.moves(0, 0), -3);
            r.faultyAt(LAND + "moves a 0 c ((((((!(3)))))));", 5);
            r.faultyAt(LAND + "moves a 0 c ------!-3;", 5);
            r.faultyAt(LAND + "moves a 0 c ------!(3);", 5);
            r.faultyAt(LAND + "moves a 0 c -(-(-(!-3)));", 5);
            r.faultyAt(LAND + "moves a 0 c ((((((1-1*!-1))))));", 5);
            r.faultyAt(LAND + "moves a 0 c 1-((((((1-!-1))))));", 5);
            r.faultyAt(LAND + "moves a 0 c ------!-?", 5);
            r.faultyAt(LAND + "moves a 0 c ------!", 2);
        }).sees("class Reader", "DEPTH_MOST = 6", "DEPTH_MOST = 5")
            .sees("class Reader", "DEPTH_MOST = 6", "DEPTH_MOST = 7")
            .sees("private long readAtom", "return -readAtom(depth + 1);", "return -readAtom(depth);")
            .sees("private long readAtom", "readSum(depth + 1)", "readSum(depth)")
            .sees("private long readAtom", "if (depth >= DEPTH_MOST) { fail(5, start); return 0; } advance();", "advance(); if (depth >= DEPTH_MOST) { fail(5, start); return 0; }")
            .sees("private long readSum", "long item = readItem(depth);", "long item = readItem(depth + 1);");

        book.says("a SUM that is not -9 to 9 (at its first TOKEN; looked at when its ; is reached).", r -> {
            r.faultyAt(LAND + "moves a 0 c !10;", 5);
            r.faultyAt(LAND + "moves a 0 c !-10;", 5);
            r.faultyAt(LAND + "moves a 0 c  !(5)*2 ;", 5);
            r.faultyAt(LAND + "moves a 0 c !9+1;", 5);
            r.faultyAt(LAND + "moves a 0 c !0-9-1;", 5);
            r.faultyAt(LAND + "moves a 0 c !9999;", 5);
            r.faultyAt(LAND + "moves a 0 c 10 !10;", 2);
            r.faultyAt(LAND + "moves a 0 c 10!?;", 1);
            r.faultyAt(LAND + "moves a 0 c 10!", 2);
            r.land(LAND + "moves a 0 c 99-90;moves a 1 c 9999*0-9;moves a 2 c (100)-100;", 7);
            r.is("9", r.x.moves(0, 0), 9);
            r.is("-9", r.x.moves(1, 0), -9);
            r.is("0", r.x.moves(2, 0), 0);
        }).sees("private boolean readMoves", "sum < -9 ||", "sum < -10 ||")
            .sees("private boolean readMoves", "|| sum > 9", "|| sum > 10")
            .sees("private boolean readMoves", "fail(5, sumStart)", "fail(5, start)")
            .sees("private boolean readMoves", "fail(5, sumStart)", "fail(4, sumStart)")
            .sees("private long readSum", "return sum;", "if (sum < -9 || sum > 9) { fail(5, start); } return sum;");
    }

    private static void tooMany(Book book) {
        book.says("6 more than 6 CELLS (at the NUMBER of cells)", r -> {
            r.faultyAt("sheet a cells 6 saves 1;sheet b cells !1 saves 1;", 6);
            r.faultyAt("sheet a cells 1 saves 1;sheet b cells !6 saves 1;", 6);
            r.faultyAt("sheet a cells 3 saves 1;mark c;sheet b cells 2 saves 1;sheet d cells !2 ?", 6);
            r.land("sheet a cells 3 saves 1;sheet b cells 2 saves 1;sheet d cells 1 saves 1;", 3);
        }).sees("private boolean readSheet", "draft.cells + more > CELLS_MOST", "draft.cells + more > CELLS_MOST + 1")
            .sees("private boolean readSheet", "draft.cells + more > CELLS_MOST", "draft.cells + more >= CELLS_MOST")
            .sees("private boolean readSheet", "return fail(6, start);", "return fail(6, nameStart);")
            .sees("private boolean readSheet", "return fail(6, start);", "return fail(4, start);");

        book.says("a 9th MARK (at its NAME)", r -> {
            r.land(EIGHT, 8);
            r.faultyAt(EIGHT + "mark !z;", 6);
            r.faultyAt(EIGHT + "mark !z ?", 6);
            r.faultyAt(EIGHT + "mark\n !z", 6);
            r.land(EIGHT + "sheet z cells 6 saves 1;", 9);
        }).sees("private boolean readMark", "draft.marks >= MARKS_MOST", "draft.marks > MARKS_MOST")
            .sees("private boolean readMark", "draft.marks >= MARKS_MOST", "draft.marks >= MARKS_MOST - 1")
            .sees("private boolean readMark", "return fail(6, start);", "advance(); return fail(6, start);")
            .sees("private boolean readMark", "return fail(6, start);", "return fail(4, start);");
    }

    private static void toldAlready(Book book) {
        book.says("near (either way round), moves or stuck of what was told so already (at the PART's first WORD", r -> {
            r.faultyAt(LAND + "near a 0 b 1;!near a 0 b 1;", 6);
            r.faultyAt(LAND + "near a 0 b 1;!near b 1 a 0;", 6);
            r.faultyAt(LAND + "near a 2 a 0;mark z;!near a 0 a 2;", 6);
            r.faultyAt(LAND + "moves a 0 c 1;!moves a 0 c 2;", 6);
            r.faultyAt(LAND + "moves a 0 c 0; !moves a 0 c 0;", 6);
            r.faultyAt(LAND + "moves b 1 d 0;!moves b 1 d 1;", 6);
            r.faultyAt(LAND + "stuck a 0 from 100 to 100;!stuck a 0 from 100 to 100;", 6);
            r.faultyAt(LAND + "stuck b 1 from 0 to 1;mark z;!stuck b 1 from 2 to 3;", 6);
            r.land(LAND + "near a 0 b 1;near a 1 b 1;near a 0 b 0;moves a 0 c 1;moves a 0 d 1;moves a 1 c 1;moves b 0 c 1;stuck a 0 from 1 to 1;stuck b 0 from 1 to 1;", 13);
            r.land("sheet a cells 6 saves 0;" + EIGHT + "moves a 5 r 1;", 10);
            r.faultyAt("sheet a cells 6 saves 0;" + EIGHT + "moves a 5 r 1;!moves a 5 r 1;", 6);
        }).sees("private boolean readNear", "if (draft.areNear(one, other))", "if (false)")
            .sees("private boolean readNear", "draft.near[other] |= 1 << one;", "")
            .sees("private boolean readNear", "return fail(6, begin);", "return fail(6, start);")
            .sees("private boolean readMoves", "movesTold |= 1L << pair;", "if (sum != 0) { movesTold |= 1L << pair; }")
            .sees("private boolean readMoves", "movesTold |= 1L << pair;", "movesTold |= 1 << pair;")
            .sees("private boolean readMoves", "return fail(6, begin);", "return fail(6, sumStart);")
            .sees("private boolean readStuck", "stuckTold |= 1 << cell;", "if (least < 100) { stuckTold |= 1 << cell; }")
            .sees("private boolean readStuck", "return fail(6, begin);", "return fail(6, start);");

        book.says("looked at when its ; is reached, ahead of what the SUM is).", r -> {
            r.faultyAt(LAND + "near a 0 b 1;near a 0 b !2;", 4);
            r.faultyAt(LAND + "near a 0 b 1;near a 0 b 1!", 2);
            r.faultyAt(LAND + "near a 0 b 1;near a 0 b 1 !1;", 2);
            r.faultyAt(LAND + "moves a 0 c 1;moves a 0 c 1!?;", 1);
            r.faultyAt(LAND + "moves a 0 c 1;moves a 0 c 1+!;", 2);
            r.faultyAt(LAND + "moves a 0 c 1;moves a 0 c ------!-1;", 5);
            r.faultyAt(LAND + "moves a 0 c 1;!moves a 0 c 10;", 6);
            r.faultyAt(LAND + "moves a 0 c 1;!moves a 0 c -9999;", 6);
            r.faultyAt(LAND + "stuck a 0 from 1 to 2;stuck a 0 from 3 to !2;", 4);
            r.faultyAt(LAND + "stuck a 0 from 1 to 2;stuck a 0 from 3 to 3!", 2);
        }).sees("private boolean readMoves", "if ((movesTold >> pair & 1) != 0) { return fail(6, begin); } if (sum < -9 || sum > 9) { return fail(5, sumStart); }",
                "if (sum < -9 || sum > 9) { return fail(5, sumStart); } if ((movesTold >> pair & 1) != 0) { return fail(6, begin); }")
            .sees("private boolean readNear", "advance(); if (!seesEnd()) { return false; } if (draft.areNear(one, other)) { return fail(6, begin); }",
                "if (draft.areNear(one, other)) { return fail(6, begin); } advance(); if (!seesEnd()) { return false; }")
            .sees("private boolean readMoves", "int sumStart = start;", "int sumStart = start; if ((movesTold >> cell * MARKS_MOST + mark & 1) != 0) { return fail(6, begin); }")
            .sees("private boolean readStuck", "advance(); if (!passWord(\"from\")", "if ((stuckTold >> cell & 1) != 0) { return fail(6, begin); } advance(); if (!passWord(\"from\")");
    }
}
