/** What the document says of the tape, of a LAND's text and of what it tells: promises 9 to 13. */
final class LandWords {
    private static final int LEAST_INT = Integer.MIN_VALUE;
    private static final int MOST_INT = Integer.MAX_VALUE;
    private static final String ONE = "sheet a cells 1 saves 0;mark b;";
    /** Each PART, TOKEN by TOKEN, as it may stand behind LAND. */
    private static final String LAND = "sheet a cells 2 saves 5;mark b;";
    private static final String[] PARTS = {"sheet c cells 1 saves 1 ;", "mark c ;", "near a 0 a 1 ;", "moves a 0 b 3 ;",
        "stuck a 0 from 10 to 20 ;"};
    private static final String[] RESERVED = {"sheet", "cells", "saves", "mark", "near", "moves", "stuck", "from", "to"};

    private LandWords() {
    }

    static void tell(Book book) {
        feeds(book);
        lands(book);
        told(book);
        bytes(book);
        tokens(book);
        parts(book);
        sums(book);
        names(book);
        cellsAndMarks(book);
        whatIsTold(book);
        whatIsGone(book);
    }

    // ---- the calls

    private static void feeds(Book book) {
        book.says("`int feed(int a, int b, int c, int d, int e)`: Twenty bytes come behind those on the tape, "
            + "the highest of each int first: how many it has", r -> {
            r.due("feed", r.x.feed(0x6d61726b, 0x20616263, 0x64656667, 0x683b6d61, 0x726b2062), 20);
            r.due("feed", r.x.feed(0x3b202020, 0x20202020, 0x20202020, 0x20202020, 0x2020203f), 40);
            r.is("mark abcdefgh;mark b; of 39 bytes", r.x.land(39), 2);
            r.due("feed to an empty tape", r.x.feed(0x6d61726b, 0x20622020, 0x20202020, 0x20202020, 0x20203fff), 20);
            r.none("the last byte but one, and one of 255", r.x.land(20), 9);
            r.due("its place", r.x.fault(1), 18);
        }).sees("private void append", "int shift = 24; shift >= 0 && size < TAPE_MOST; shift -= 8", "int shift = 0; shift <= 24 && size < TAPE_MOST; shift += 8")
            .sees("public int feed", "reader.append(e);", "reader.append(d);")
            .sees("public int feed", "return reader.size;", "return FEED_BYTES;");

        book.says("NONE if there would be more than 600.", r -> {
            for (int i = 1; i <= 30; i++) {
                r.due("feed " + i, r.x.feed(0x20202020, 0x20202020, 0x20202020, 0x20202020, 0x20202020), 20 * i);
            }
            r.due("a 31st", r.x.feed(0x3f3f3f3f, 0x3f3f3f3f, 0x3f3f3f3f, 0x3f3f3f3f, 0x3f3f3f3f), -1);
            r.due("and once more", r.x.feed(0x3f3f3f3f, 0x3f3f3f3f, 0x3f3f3f3f, 0x3f3f3f3f, 0x3f3f3f3f), -1);
            r.none("the tape has no more", r.x.land(601), 1);
            r.is("600 blanks", r.x.land(600), 0);
            r.due("room again", r.x.feed(0, 0, 0, 0, 0), 20);
        }).sees("private boolean hasRoom", "<=", "<")
            .sees("private boolean hasRoom", "TAPE_MOST - FEED_BYTES", "TAPE_MOST")
            .sees("public int feed", "if (!reader.hasRoom()) {", "if (!reader.hasRoom()) { reader.size = 0;");
    }

    private static void lands(Book book) {
        book.says("`int land(int n)`: The first n bytes of the tape (which is empty then) are the LAND: how many PARTS", r -> {
            r.is("none of an empty tape", r.x.land(0), 0);
            r.feed("mark a;mark b;??");
            r.is("two", r.x.land(14), 2);
            r.is("many(1)", r.x.many(1), 2);
            r.none("the tape is empty", r.x.land(1), 1);
            r.feed("mark a;mark b;");
            r.is("one", r.x.land(7), 1);
            r.is("many(1)", r.x.many(1), 1);
            r.feed("mark a;");
            r.is("none", r.x.land(0), 0);
            r.is("many(1)", r.x.many(1), 0);
            r.due("the tape was empty", r.x.feed(0, 0, 0, 0, 0), 20);
            r.none("20 bytes that are none", r.x.land(20), 9);
            cut(r, "mark a;", 3, 2, 0);
            cut(r, "mark a;", 4, 2, 4);
            cut(r, "mark abcdefghi;", 13, 2, 13);
            cut(r, "sheet a cells 1 saves 09999;", 26, 2, 26);
            cut(r, "mark a;;", 8, 2, 7);
            r.feed("mark a;;");
            r.is("one, ahead of a second ;", r.x.land(7), 1);
        }).sees("private int readParts", "size = 0;", "")
            .sees("kind = WORD;", "stop < end", "stop <= end")
            .sees("private void scanNumber", "stop < end", "stop <= end")
            .sees("private void advance", "start >= end", "start > end")
            .sees("private int readParts", "end = n;", "end = Math.max(n, 14);")
            .sees("public int land", "n < 0", "n < 1")
            .sees("public int land", "return answer(parts);", "return answer(ground.marks + 1);");

        book.says("(1: n below 0, or more than the tape has; 9: the LAND stays).", r -> {
            r.land("mark a;", 1);
            r.feed("mark b;mark c;");
            for (int n : new int[] {LEAST_INT, -1, 21, 601, MOST_INT}) {
                r.none("land(" + n + ")", r.x.land(n), 1);
            }
            r.due("fault() tells of the one ahead", r.x.fault(0), 0);
            r.none("all that the tape has, with 0s", r.x.land(20), 9);
            r.is("the LAND stays", r.x.many(1), 1);
            r.none("the tape is empty", r.x.land(1), 1);
            r.feed("mark b;mark c;mark z");
            r.none("the text ends early", r.x.land(20), 9);
            r.is("the LAND stays", r.x.many(1), 1);
        }).sees("public int land", "n < 0 ||", "n < -1 ||")
            .sees("public int land", "n > reader.size", "n >= reader.size")
            .sees("public int land", "n > reader.size", "n > TAPE_MOST")
            .sees("public int land", "return refuse(FAULTY);", "ground = reader.trade(ground); return refuse(FAULTY);");
    }

    /** Of a text on the tape the first bytes alone, with this FAULT. */
    private static void cut(Run r, String text, int n, int fault, int place) {
        r.feed(text);
        r.none("land(" + n + ") of '" + text + "'", r.x.land(n), 9);
        r.due("its FAULT", r.x.fault(0), fault);
        r.due("its place", r.x.fault(1), place);
    }

    private static void told(Book book) {
        book.says("`int fault(int what)`: Of the latest land() with STATUS 0 or 9, what 0: the FAULT (0 without one), 1: its place (NONE without).", r -> {
            r.faulty("mark a", 2, 6);
            r.none("land(-1)", r.x.land(-1), 1);
            r.due("a land() with STATUS 1 tells none", r.x.fault(0), 2);
            r.due("its place", r.x.fault(1), 6);
            r.faulty("?", 1, 0);
            r.land("mark a;", 1);
            r.none("land(1)", r.x.land(1), 1);
            r.due("none", r.x.fault(0), 0);
            r.due("no place", r.x.fault(1), -1);
            r.faulty("mark b;mark b;", 3, 12);
            r.is("land(0)", r.x.land(0), 0);
            r.due("none", r.x.fault(0), 0);
            r.due("no place", r.x.fault(1), -1);
        }).sees("public int land", "return refuse(BAD_NUMBER);", "faultKind = 0; return refuse(BAD_NUMBER);")
            .sees("public int land", "return refuse(BAD_NUMBER);", "faultPlace = NONE; return refuse(BAD_NUMBER);")
            .sees("private int readParts", "fault = 0;", "")
            .sees("private int readParts", "place = NONE;", "");

        book.says("NONE for others, and ahead of any.", r -> {
            int[] others = {LEAST_INT, -1, 2, 9, MOST_INT};
            r.due("fault(0) of a new object", r.x.fault(0), -1);
            r.due("fault(1) of a new object", r.x.fault(1), -1);
            r.none("land(1)", r.x.land(1), 1);
            r.due("fault(0) still", r.x.fault(0), -1);
            for (int what : others) {
                r.due("fault(" + what + ")", r.x.fault(what), -1);
            }
            r.faulty("mark b;mark b;", 3, 12);
            for (int what : others) {
                r.due("fault(" + what + ")", r.x.fault(what), -1);
            }
        }).sees("class SlipSheets", "faultKind = NONE;", "faultKind = 0;")
            .sees("class SlipSheets", "faultPlace = NONE;", "faultPlace = 0;")
            .sees("public int fault", "what == 1 ? faultPlace", "what != 0 ? faultPlace")
            .sees("public int fault", "if (what == 0)", "if (what <= 0)");

        book.says("`int many(int what)`: How many CELLS there are (what 0), MARKS (1) (1).", r -> {
            r.is("CELLS of a new object", r.x.many(0), 0);
            r.is("MARKS of a new object", r.x.many(1), 0);
            r.land("sheet a cells 6 saves 0;mark b;mark c;mark d;mark e;mark f;mark g;mark h;mark i;", 9);
            r.is("CELLS", r.x.many(0), 6);
            r.is("MARKS", r.x.many(1), 8);
            for (int what : new int[] {LEAST_INT, -1, 2, MOST_INT}) {
                r.none("many(" + what + ")", r.x.many(what), 1);
            }
        }).sees("public int many", "isOneOf(what, 2)", "isOneOf(what, 3)")
            .sees("public int many", "!isOneOf(what, 2)", "what > 1")
            .sees("public int many", "ground.cells : ground.marks", "ground.marks : ground.cells");

        book.says("`int moves(int cell, int mark)`: By how much one unit in a CELL moves a MARK; STATUS tells NONE from -1 (1).", r -> {
            r.none("moves(0, 0) ahead of any LAND", r.x.moves(0, 0), 1);
            r.land("sheet a cells 2 saves 0;mark b;mark c;mark d;moves a 1 d -1;moves a 0 b 9;", 6);
            r.is("-1", r.x.moves(1, 2), -1);
            r.is("9", r.x.moves(0, 0), 9);
            for (int beyond : new int[] {LEAST_INT, -1, MOST_INT}) {
                r.none("CELL " + beyond, r.x.moves(beyond, 0), 1);
                r.none("MARK " + beyond, r.x.moves(0, beyond), 1);
            }
            r.none("CELL 2", r.x.moves(2, 0), 1);
            r.none("MARK 3", r.x.moves(0, 3), 1);
        }).sees("private boolean isCell", "ground.cells", "ground.cells + 1")
            .sees("private boolean isMark", "ground.marks", "ground.marks + 1")
            .sees("private boolean isCell", "isOneOf(cell, ground.cells)", "cell < ground.cells")
            .sees("private boolean isMark", "isOneOf(mark, ground.marks)", "mark < ground.marks");
    }

    // ---- TOKENS

    private static boolean isLetter(int c) {
        return c >= 'a' && c <= 'z';
    }

    private static boolean isDigit(int c) {
        return c >= '0' && c <= '9';
    }

    private static boolean isBlank(int c) {
        return c == 10 || c == 32;
    }

    private static boolean isSign(int c) {
        return c == ';' || c == '+' || c == '-' || c == '*' || c == '(' || c == ')';
    }

    private static boolean beginsNone(int c) {
        return !isLetter(c) && !isDigit(c) && !isBlank(c) && !isSign(c);
    }

    private static void bytes(Book book) {
        book.says("between them blanks (10, 32)", r -> {
            for (int c = 0; c < 256; c++) {
                String text = "mark" + (char) c + "a;";
                if (isBlank(c)) {
                    r.again().land(text, 1);
                } else {
                    r.again().faulty(text, beginsNone(c) ? 1 : 2, isLetter(c) ? 0 : 4);
                }
            }
            r.land("\n \n mark \n\n a \n ; \n", 1);
        }).sees("private void advance", "text[start] == 10 ||", "text[start] == 13 ||")
            .sees("private void advance", "text[start] == 10 ||", "")
            .sees("private void advance", "|| text[start] == 32", "|| text[start] == 32 || text[start] == 9")
            .sees("private void advance", "while (start < end &&", "if (start < end &&");

        book.says("WORDS (small letters)", r -> {
            for (int c = 0; c < 256; c++) {
                String text = "mark " + (char) c + ";";
                if (isLetter(c)) {
                    r.again().land(text, 1);
                } else {
                    r.again().faulty(text, beginsNone(c) ? 1 : 2, isBlank(c) ? 6 : 5);
                }
            }
        }).sees("private static boolean isLetter", ">=", ">")
            .sees("private static boolean isLetter", "<=", "<")
            .sees("private static boolean isLetter", "b >= 'a'", "b >= 'a' - 1")
            .sees("private static boolean isLetter", "b <= 'z'", "b <= 'z' + 1");

        book.says("NUMBERS (1 to 4 digits)", r -> {
            for (int c = 0; c < 256; c++) {
                String text = "sheet a cells 1 saves " + (char) c + ";";
                if (isDigit(c)) {
                    Run s = r.again();
                    s.land(text, 1);
                    s.is("saved(0, 19, 0)", s.x.saved(0, 19, 0), c == '0' ? 0 : 1);
                    s.due("five times as many by 25", s.x.top() * 25, (c - '0') * 5 * s.x.bottom());
                } else {
                    r.again().faulty(text, beginsNone(c) ? 1 : 2, isBlank(c) ? 23 : 22);
                }
            }
            for (String number : new String[] {"6", "06", "006", "0006"}) {
                r.land("sheet a cells " + number + " saves 0;", 1);
                r.is("many(0)", r.x.many(0), 6);
            }
            r.faultyAt("sheet a cells !00006 saves 0;", 1);
            r.land(ONE + "moves a 0 b 9999-9998;", 3);
            r.faultyAt(ONE + "moves a 0 b !10000-9999;", 1);
            r.faultyAt(ONE + "moves a 0 b !000000000000;", 1);
        }).sees("private static boolean isDigit", ">=", ">")
            .sees("private static boolean isDigit", "<=", "<")
            .sees("private static boolean isDigit", "b >= '0'", "b >= '0' - 1")
            .sees("private static boolean isDigit", "b <= '9'", "b <= '9' + 1")
            .sees("class Reader", "DIGITS_MOST = 4", "DIGITS_MOST = 3")
            .sees("class Reader", "DIGITS_MOST = 4", "DIGITS_MOST = 5");

        book.says("SIGNS ; + - * ( )", r -> {
            for (int c = 0; c < 256; c++) {
                String head = ONE + "moves a 0 b 1";
                String text = head + (char) c + "2;";
                Run s = r.again();
                if (c == '+' || c == '-' || c == '*') {
                    s.land(text, 3);
                    s.is("moves(0, 0) by 1" + (char) c + "2", s.x.moves(0, 0), c == '+' ? 3 : c == '-' ? -1 : 2);
                } else if (isDigit(c)) {
                    s.faulty(text, 5, head.length() - 1);
                } else {
                    s.faulty(text, beginsNone(c) ? 1 : 2, isBlank(c) || c == ';' ? head.length() + 1 : head.length());
                }
            }
            r.land(ONE + "moves a 0 b (2);", 3);
            r.is("brackets", r.x.moves(0, 0), 2);
        }).sees("private static boolean isSignByte", "b == ';' ||", "b == ':' ||")
            .sees("private static boolean isSignByte", "b == '+' ||", "")
            .sees("private static boolean isSignByte", "b == '-' ||", "")
            .sees("private static boolean isSignByte", "b == '*' ||", "")
            .sees("private static boolean isSignByte", "b == '(' ||", "")
            .sees("private static boolean isSignByte", "|| b == ')'", "|| b == ')' || b == '/'");
    }

    private static void tokens(Book book) {
        book.says("A LAND is a TEXT of at most 600 bytes.", r -> {
            String sum = ONE + "moves a 0 b 2";
            r.land(sum + " ".repeat(599 - sum.length()) + ";", 3);
            r.is("moves(0, 0)", r.x.moves(0, 0), 2);
            r.faulty(sum + " ".repeat(599 - sum.length()) + "?", 1, 599);
            r.faulty(sum + " ".repeat(599 - sum.length()) + ")", 2, 599);
            r.faulty(sum + " ".repeat(600 - sum.length()), 2, 600);
            r.feed(" ".repeat(600));
            r.due("a 601st byte", r.x.feed(0x20202020, 0x20202020, 0x20202020, 0x20202020, 0x20202020), -1);
        }).sees("class SlipSheets", "TAPE_MOST = 600", "TAPE_MOST = 580")
            .sees("class SlipSheets", "TAPE_MOST = 600", "TAPE_MOST = 620")
            .sees("private void advance", "if (start >= end)", "if (start >= end - 1)");

        book.says("TOKENS, as long as they go", r -> {
            r.faulty("marka;", 2, 0);
            r.faulty("mark ab cd;", 2, 8);
            r.faulty("mark abcdefghi;", 2, 5);
            r.faulty("sheet a cells 12 saves 0;", 4, 14);
            r.faulty("sheet a cells 1 2 saves 0;", 2, 16);
            r.land("sheet a cells1saves0;mark b;moves a0b1;", 3);
            r.is("moves(0, 0)", r.x.moves(0, 0), 1);
            r.land("mark cellsa;mark acells;mark too;", 3);
            r.land(ONE + "moves a 0 b--1;", 3);
            r.is("two SIGNS", r.x.moves(0, 0), 1);
        }).sees("kind = WORD;", "while (stop < end && isLetter(text[stop]))", "while (stop < end && stop < start + 8 && isLetter(text[stop]))")
            .sees("kind = WORD;", "isLetter(text[stop])", "(isLetter(text[stop]) || isDigit(text[stop]))")
            .sees("private void scanNumber", "while (stop < end && isDigit(text[stop]))", "while (stop < end && stop < start + 1 && isDigit(text[stop]))")
            .sees("private void advance", "kind = SIGN; stop++;", "kind = SIGN; stop++; while (stop < end && isSignByte(text[stop])) { stop++; }");
    }

    // ---- PARTS, SUMS

    private static void parts(Book book) {
        book.says("TEXT: {PART}.", r -> {
            r.is("no byte", r.x.land(0), 0);
            r.land(" ", 0);
            r.land("\n\n  ", 0);
            r.is("no CELLS", r.x.many(0), 0);
            r.land("mark a;", 1);
            r.land("mark a;mark b;", 2);
            r.faulty(";", 2, 0);
            r.faulty("mark a;;", 2, 7);
            r.faulty("a", 2, 0);
            r.faulty("1", 2, 0);
            r.faulty("to", 2, 0);
        }).sees("private int readParts", "kind != END &&", "")
            .sees("private int readParts", "while (parts < TAPE_MOST && kind", "while (parts < 1 && kind")
            .sees("private boolean readPart", "int begin = start;", "if (isSign(';')) { return true; } int begin = start;");

        book.says("({ } any number of times.)", r -> {
            StringBuilder text = new StringBuilder("sheet a cells6saves0;");
            int parts = 1;
            for (int mark = 0; mark < 8; mark++, parts++) {
                text.append("mark ").append((char) ('k' + mark)).append(';');
            }
            for (int cell = 0; cell < 6; cell++, parts++) {
                text.append("stuck a").append(cell).append("from0to0;");
                for (int other = 0; other < cell; other++, parts++) {
                    text.append("near a").append(cell).append('a').append(other).append(';');
                }
            }
            for (int at = 0; at < 24; at++, parts++) {
                text.append("moves a").append(at / 8).append((char) ('k' + at % 8)).append("1;");
            }
            r.land(text.toString(), parts);
            r.due("so many PARTS", parts, 54);
            String head = ONE + "moves a 0 b 1";
            r.land(head + "-1+1".repeat((598 - head.length()) / 4) + "+1;", 3);
            r.is("a long SUM", r.x.moves(0, 0), 2);
            r.land(head + "*1".repeat((596 - head.length()) / 2) + "*7;", 3);
            r.is("a long ITEM", r.x.moves(0, 0), 7);
        }).sees("private int readParts", "while (parts < TAPE_MOST", "while (parts < 53")
            .sees("private long readSum", "i < TAPE_MOST", "i < 250")
            .sees("private long readItem", "i < TAPE_MOST", "i < 250");

        book.says("PART: sheet NAME cells NUMBER saves NUMBER ; or mark NAME ; or near NAME NUMBER NAME NUMBER ; or moves NAME NUMBER "
            + "NAME SUM ; or stuck NAME NUMBER from NUMBER to NUMBER ;", r -> {
            for (String part : PARTS) {
                cutAndSpoil(r, part.split(" "));
            }
        }).sees("private boolean seesEnd", "isSign(';') ||", "isSign(';') || kind == END ||")
            .sees("private boolean readSheet", "passWord(\"cells\")", "passWord(\"saves\")")
            .sees("private boolean readSheet", "!passWord(\"saves\") ||", "")
            .sees("private boolean readMark", "if (!seesEnd()) { return false; }", "")
            .sees("private boolean readNear", "if (!seesEnd()) { return false; }", "")
            .sees("private boolean readMoves", "|| !seesEnd()", "")
            .sees("private boolean readStuck", "!passWord(\"from\") ||", "")
            .sees("private boolean readStuck", "passWord(\"to\")", "passWord(\"from\")")
            .sees("private boolean readStuck", "if (!seesEnd()) { return false; }", "")
            .sees("private boolean readSheet", "if (!seesEnd()) { return false; }", "")
            .sees("private boolean seesNumber", "return fail(2, start);", "return true;");
    }

    /** The text ends behind each TOKEN of a PART but the last, and has one that can't stand there ahead of each. */
    private static void cutAndSpoil(Run r, String[] tokens) {
        StringBuilder head = new StringBuilder(LAND);
        for (int i = 0; i < tokens.length; i++) {
            if (i > 0) {
                r.again().faulty(head.toString(), 2, head.length());
            }
            r.again().faulty(head + ")" + tokens[i], 2, head.length());
            r.again().faulty(head + (Character.isDigit(tokens[i].charAt(0)) ? "x" : "5 "), 2, head.length());
            r.again().faulty(head + (tokens[i].equals("cells") ? "saves" : "cells"), 2, head.length());
            head.append(tokens[i]).append(' ');
        }
        r.again().land(head.toString(), 3);
    }

    private static void sum(Run r, String sum, int value) {
        r.land(ONE + "moves a 0 b " + sum + ";", 3);
        r.is("moves(0, 0) by " + sum, r.x.moves(0, 0), value);
    }

    private static void sums(Book book) {
        book.says("SUM: ITEM {+ ITEM, or - ITEM}.", r -> {
            sum(r, "1", 1);
            sum(r, "1-2-3", -4);
            sum(r, "1-2+3", 2);
            sum(r, "2*3-4", 2);
            sum(r, "2-3*4+5", -5);
            r.faultyAt(ONE + "moves a 0 b !;", 2);
            r.faultyAt(ONE + "moves a 0 b !+1;", 2);
            r.faultyAt(ONE + "moves a 0 b 1+!;", 2);
            r.faultyAt(ONE + "moves a 0 b 1-!;", 2);
            r.faultyAt(ONE + "moves a 0 b 1+!+1;", 2);
            r.faultyAt(ONE + "moves a 0 b 1 !1;", 2);
            r.faultyAt(ONE + "moves a 0 b 1-!", 2);
        }).sees("private long readSum", "sum - item", "item - sum")
            .sees("private long readSum", "|| isSign('-')", "")
            .sees("private long readSum", "isSign('+') ||", "");

        book.says("ITEM: ATOM {* ATOM}.", r -> {
            sum(r, "2*3", 6);
            sum(r, "2*2*2", 8);
            sum(r, "1+2*3", 7);
            sum(r, "2*3+1", 7);
            sum(r, "3*0", 0);
            r.faultyAt(ONE + "moves a 0 b !*1;", 2);
            r.faultyAt(ONE + "moves a 0 b 1*!;", 2);
            r.faultyAt(ONE + "moves a 0 b 1*!*1;", 2);
            r.faultyAt(ONE + "moves a 0 b 1*!+1;", 2);
        }).sees("private long readItem", "item *= readAtom(depth)", "item *= readSum(depth)")
            .sees("private long readItem", "item *=", "item =")
            .sees("private long readItem", "for (int i = 0; i < TAPE_MOST", "for (int i = 0; i < 1");

        book.says("ATOM: NUMBER, - ATOM, or ( SUM ).", r -> {
            sum(r, "-3", -3);
            sum(r, "--3", 3);
            sum(r, "-1-1", -2);
            sum(r, "2*-3", -6);
            sum(r, "1--1", 2);
            sum(r, "(1+2)*3", 9);
            sum(r, "2-(3-4)", 3);
            sum(r, "-(2-3)*4", 4);
            r.faultyAt(ONE + "moves a 0 b (!);", 2);
            r.faultyAt(ONE + "moves a 0 b (1!;", 2);
            r.faultyAt(ONE + "moves a 0 b 1!);", 2);
            r.faultyAt(ONE + "moves a 0 b -!;", 2);
            r.faultyAt(ONE + "moves a 0 b (1!", 2);
            r.faultyAt(ONE + "moves a 0 b 2!(3);", 2);
            r.faultyAt(ONE + "moves a 0 b !b;", 2);
        }).sees("private long readAtom", "return -readAtom(depth + 1);", "return readAtom(depth + 1);")
            .sees("private long readAtom", "return -readAtom(depth + 1);", "return -readSum(depth + 1);")
            .sees("private long readAtom", "if (!isSign(')')) { fail(2, start); return 0; }", "")
            .sees("private long readAtom", "long inside = readSum(depth + 1);", "long inside = isSign(')') ? 0 : readSum(depth + 1);");

        book.says("SUMS are of 64 bits, round on.", r -> {
            String power60 = "4096*4096*4096*4096*4096";
            sum(r, power60 + "*16", 0);
            sum(r, power60 + "*16+5", 5);
            sum(r, power60 + "*8*2+3", 3);
            sum(r, power60 + "*8+" + power60 + "*8-7", -7);
            sum(r, power60 + "*8-1-(-" + power60 + "*8+1)+3", 1);
            r.faultyAt(ONE + "moves a 0 b !" + power60 + "*8;", 5);
            r.faultyAt(ONE + "moves a 0 b !4096*4096*256;", 5);
            r.faultyAt(ONE + "moves a 0 b !4096*4096*256+1;", 5);
            r.faultyAt(ONE + "moves a 0 b !-" + power60 + "*8;", 5);
        }).sees("private long readSum", "long sum = readItem(depth);", "long sum = (int) readItem(depth);")
            .sees("private long readItem", "item *= readAtom(depth);", "item = Math.max(-1L << 62, Math.min(1L << 62, item)) * readAtom(depth);")
            .sees("private long readItem", "item *= readAtom(depth);", "item = (int) (item * readAtom(depth));");
    }

    // ---- NAMES

    /** A text for each place of a NAME: '!' stands where it begins, '#' is the NAME. */
    private static final String[] PLACES = {"sheet !# cells 1 saves 1;", "mark !#;", LAND + "near !# 0 a 1;", LAND + "near a 0 !# 1;",
        LAND + "moves !# 0 b 1;", LAND + "moves a 0 !# 1;", LAND + "stuck !# 0 from 1 to 2;"};

    private static void names(Book book) {
        book.says("NAME: a WORD of 1 to 8 letters", r -> {
            for (String place : PLACES) {
                r.again().faultyAt(place.replace("#", "abcdefghi"), 2);
                r.again().faultyAt(place.replace("#", "abcdefghijklmnopqrstuvwxyz"), 2);
            }
            r.land("sheet abcdefgh cells 2 saves 1;mark z;moves abcdefgh 1 z 3;", 3);
            r.is("moves(1, 0)", r.x.moves(1, 0), 3);
            r.land("sheet z cells 2 saves 1;mark abcdefgh;moves z 0 abcdefgh 4;near z 0 z 1;stuck z 1 from 1 to 2;", 5);
            r.is("moves(0, 0)", r.x.moves(0, 0), 4);
            r.land("mark abcdefgh;mark abcdefgg;mark bbcdefgh;mark abcdefg;", 4);
            r.faultyAt("mark abcdefgh;mark abcdefgg;mark !abcdefgh;", 3);
        }).sees("class Reader", "NAME_MOST = 8", "NAME_MOST = 7")
            .sees("class Reader", "NAME_MOST = 8", "NAME_MOST = 9")
            .sees("private int find", "areAlike(text, starts[i], start, stop - start)", "areAlike(text, starts[i], start, Math.min(7, stop - start))")
            .sees("private int find", "stops[i] - starts[i] == stop - start &&", "");

        Book.Sentence none = book.says("that is none of sheet, cells, saves, mark, near, moves, stuck, from, to.", r -> {
            for (String word : RESERVED) {
                for (String place : PLACES) {
                    r.again().faultyAt(place.replace("#", word), 2);
                }
                r.land("mark " + word + "a;mark a" + word + ";mark " + word.substring(1) + ";", 3);
                r.land("mark x" + word.substring(1) + ";mark " + word.substring(0, word.length() - 1) + "x;", 2);
            }
        });
        for (String word : RESERVED) {
            none.sees("private boolean isName", "!isWord(\"" + word + "\")", "true");
        }
    }

    // ---- CELLS and MARKS

    private static void cellsAndMarks(Book book) {
        book.says("A SHEET has CELLS 0 and on", r -> {
            r.land("sheet a cells 3 saves 0;mark b;moves a 0 b 1;moves a 1 b 2;moves a 2 b 3;", 5);
            r.is("CELL 0", r.x.moves(0, 0), 1);
            r.is("CELL 2", r.x.moves(2, 0), 3);
            r.faultyAt("sheet a cells 3 saves 0;mark b;moves a !3 b 1;", 4);
            r.faultyAt("sheet a cells 1 saves 0;mark b;moves a !1 b 1;", 4);
            r.faultyAt("sheet a cells 1 saves 0;mark b;moves a !9999 b 1;", 4);
        }).sees("private int seeCell", "names.cellsOf[sheet] - 1", "names.cellsOf[sheet]")
            .sees("private int seeCell", "seesNumber(0,", "seesNumber(1,");

        book.says("all CELLS of all SHEETS are numbered through, SHEETS as they stand, at most 6 together.", r -> {
            String text = "mark m;sheet c cells 1 saves 0;sheet a cells 2 saves 0;mark k;sheet b cells 3 saves 0;";
            r.land(text + "moves c 0 m 1;moves a 0 m 2;moves a 1 m 3;moves b 0 m 4;moves b 1 m 5;moves b 2 m 6;", 11);
            r.is("six", r.x.many(0), 6);
            for (int cell = 0; cell < 6; cell++) {
                r.is("CELL " + cell, r.x.moves(cell, 0), cell + 1);
            }
            r.faultyAt(text + "sheet d cells !1 saves 0;", 6);
            r.land("sheet a cells 6 saves 0;", 1);
            r.land("sheet a cells 1 saves 0;sheet b cells 1 saves 0;sheet c cells 1 saves 0;sheet d cells 1 saves 0;sheet e cells 1 saves 0;"
                + "sheet f cells 1 saves 0;", 6);
            r.is("six SHEETS", r.x.many(0), 6);
        }).sees("class SlipSheets", "CELLS_MOST = 6", "CELLS_MOST = 5")
            .sees("class SlipSheets", "CELLS_MOST = 6", "CELLS_MOST = 7")
            .sees("private int seeCell", "names.numbers[sheet] + number", "number")
            .sees("class Names", "NAMES_MOST = CELLS_MOST + MARKS_MOST", "NAMES_MOST = 4");

        book.says("MARKS are numbered as they stand, at most 8.", r -> {
            String text = "mark h;mark g;mark f;sheet a cells 1 saves 0;mark e;mark d;mark c;mark b;mark k;";
            r.land(text + "moves a 0 h 1;moves a 0 g 2;moves a 0 f 3;moves a 0 e 4;moves a 0 d 5;moves a 0 c 6;moves a 0 b 7;moves a 0 k 8;", 17);
            r.is("eight", r.x.many(1), 8);
            for (int mark = 0; mark < 8; mark++) {
                r.is("MARK " + mark, r.x.moves(0, mark), mark + 1);
            }
            r.faultyAt(text + "mark !z;", 6);
            r.land("sheet u cells 1 saves 1;mark a;sheet v cells 1 saves 1;mark b;sheet w cells 1 saves 1;mark c;sheet x cells 1 saves 1;mark d;"
                + "sheet y cells 1 saves 1;mark e;mark f;mark g;sheet z cells 1 saves 1;mark h;moves z 0 h 7;moves u 0 a -7;", 16);
            r.is("the last of fourteen NAMES", r.x.moves(5, 7), 7);
            r.is("the first", r.x.moves(0, 0), -7);
        }).sees("class SlipSheets", "MARKS_MOST = 8", "MARKS_MOST = 7")
            .sees("class Names", "private void clear() { size = 0;", "private void clear() { size = 1;")
            .sees("class SlipSheets", "MARKS_MOST = 8", "MARKS_MOST = 9")
            .sees("private boolean readMark", "names.add(nameStart, nameStop, draft.marks, 0)", "names.add(nameStart, nameStop, names.size, 0)");

        book.says("near: two CELLS (of a SHEET each) lie beside one another.", r -> {
            r.land("sheet a cells 2 saves 0;sheet b cells 2 saves 0;near b 1 a 0;", 3);
            r.yes("smooth(0)", r.x.smooth(0));
            r.is("CELLS 0 and 3 are alike", r.x.slips(0, 1), 1000);
            r.land("sheet a cells 2 saves 0;sheet b cells 2 saves 0;near b 1 a 0;near a 0 a 1;near b 0 b 1;", 5);
            r.is("all are alike", r.x.slips(0, 1), 10);
        }).sees("private boolean readNear", "draft.near[one] |= 1 << other;", "")
            .sees("private boolean readNear", "draft.near[other] |= 1 << one;", "");
    }

    private static void whatIsTold(Book book) {
        book.says("moves: by one unit of slip in a CELL (of the SHEET named first) the MARK (named second) moves so much "
            + "(the SUM, -9 to 9; 0 where none is told).", r -> {
            r.land("sheet a cells 1 saves 0;sheet b cells 1 saves 0;mark c;mark d;moves b 0 c -9;moves a 0 d 9;moves b 0 d 3-3;", 7);
            r.is("-9", r.x.moves(1, 0), -9);
            r.is("9", r.x.moves(0, 1), 9);
            r.is("told 0", r.x.moves(1, 1), 0);
            r.is("not told", r.x.moves(0, 0), 0);
            r.faultyAt(ONE + "moves a 0 b !10;", 5);
            r.faultyAt(ONE + "moves a 0 b !-10;", 5);
        }).sees("private boolean readMoves", "sum < -9", "sum <= -9")
            .sees("private boolean readMoves", "sum > 9", "sum >= 9")
            .sees("private boolean readMoves", "sum < -9", "sum < -10")
            .sees("private boolean readMoves", "sum > 9", "sum > 10")
            .sees("class Land", "Arrays.fill(units, 0)", "Arrays.fill(units, 1)");

        book.says("stuck: a CELL is stuck by so many hundredths at least, so many at most (100 and 100 where none is told).", r -> {
            r.land("sheet a cells 5 saves 100;stuck a 0 from 0 to 0;stuck a 1 from 0 to 100;stuck a 2 from 100 to 100;stuck a 3 from 37 to 38;", 5);
            r.fraction("0 at least", r.x.saved(0, 0, 0), 0, 1);
            r.fraction("0 at most", r.x.saved(0, 0, 1), 0, 1);
            r.fraction("0 at least", r.x.saved(1, 0, 0), 0, 1);
            r.fraction("100 at most", r.x.saved(1, 0, 1), 1, 1);
            r.fraction("100 at least", r.x.saved(2, 0, 0), 1, 1);
            r.fraction("37 at least", r.x.saved(3, 0, 0), 37, 100);
            r.fraction("38 at most", r.x.saved(3, 0, 1), 19, 50);
            r.fraction("not told: at least", r.x.saved(4, 0, 0), 1, 1);
            r.fraction("not told: at most", r.x.saved(4, 0, 1), 1, 1);
        }).sees("class Land", "Arrays.fill(stuckLeast, 100)", "Arrays.fill(stuckLeast, 0)")
            .sees("class Land", "Arrays.fill(stuckMost, 100)", "Arrays.fill(stuckMost, 99)")
            .sees("private boolean readStuck", "draft.stuckMost[cell] = most", "draft.stuckMost[cell] = least");

        book.says("saves: so many units in 100 YEARS are saved in each CELL of the SHEET that is wholly stuck (0 to 999).", r -> {
            r.land("sheet a cells 1 saves 0;sheet b cells 2 saves 999;sheet c cells 1 saves 1;", 3);
            r.fraction("0", r.x.saved(0, 19, 0), 0, 1);
            r.fraction("999", r.x.saved(1, 0, 0), 999, 100);
            r.fraction("999 in each", r.x.saved(2, 0, 1), 999, 100);
            r.fraction("1", r.x.saved(3, 0, 0), 1, 100);
            r.faultyAt("sheet a cells 1 saves !1000;", 4);
        }).sees("private void addCells", "saves[cells] = savesOfEach; cells++;", "cells++; saves[cells % CELLS_MOST] = savesOfEach;")
            .sees("private boolean readSheet", "seesNumber(0, 999)", "seesNumber(0, 1000)")
            .sees("private boolean readSheet", "seesNumber(0, 999)", "seesNumber(0, 998)")
            .sees("private boolean readSheet", "seesNumber(0, 999)", "seesNumber(1, 999)");
    }

    private static void whatIsGone(Book book) {
        book.says("A LAND that is taken is there in place of that ahead", r -> {
            String full = "sheet a cells 2 saves 999;mark b;near a 0 a 1;moves a 0 b 9;moves a 1 b -9;stuck a 0 from 1 to 2;stuck a 1 from 3 to 4;";
            r.yes("smooth(0)", r.x.smooth(0));
            r.land(full, 7);
            r.land(full, 7);
            r.land("sheet c cells 3 saves 100;mark d;", 2);
            bare(r);
            r.faulty(full + "?", 1, full.length());
            bare(r);
            r.land("sheet c cells 3 saves 100;mark d;", 2);
            bare(r);
            r.land(full, 7);
            r.faultyAt("mark a;moves !a 0 b 1;", 3);
            r.is("CELLS of the LAND that stays", r.x.many(0), 2);
            r.is("no CELLS", r.x.land(0), 0);
            r.is("no CELLS", r.x.many(0), 0);
            r.is("no MARKS", r.x.many(1), 0);
            for (int unit = -1; unit <= 1; unit += 2) {
                r.land("sheet a cells 2 saves 0;mark b;moves a 0 b " + unit + ";moves a 1 b " + 9 * unit + ";", 4);
                r.rows(0, 0, 0, 0, 1, 3 * unit);
                r.is("3 by two CELLS", r.x.slips(0, 1), 1);
                r.land("sheet a cells 1 saves 0;mark b;moves a 0 b " + unit + ";", 3);
                r.rows(0, 0, 0, 0, 1, 3 * unit);
                r.is("3 by one CELL", r.x.slips(0, 1), 1);
            }
        }).sees("private void boundRests", "Arrays.fill(restLeast, 0);", "")
            .sees("private void boundRests", "Arrays.fill(restMost, 0);", "")
            .sees("private static final class Land {", "Arrays.fill(units, 0);", "")
            .sees("private static final class Land {", "Arrays.fill(near, 0);", "")
            .sees("private static final class Land {", "Arrays.fill(stuckLeast, 100);", "")
            .sees("private static final class Land {", "cells = 0;", "")
            .sees("private static final class Land {", "marks = 0;", "")
            .sees("private int readParts", "names.clear();", "")
            .sees("private int readParts", "movesTold = 0;", "")
            .sees("private int readParts", "stuckTold = 0;", "");

        book.says("all ROWS, OFFSETS and SHAKES are gone then", r -> {
            String text = "sheet a cells 1 saves 100;mark b;";
            r.land(text, 2);
            for (int i = 0; i < 160; i++) {
                r.call(0, "row", 0, i % 20, 5, 0, 0);
            }
            for (int i = 0; i < 20; i++) {
                r.call(0, "offset", 0, 0, 1);
            }
            for (int i = 0; i < 30; i++) {
                r.call(0, "shake", 0, 0, 1);
            }
            r.faulty("mark a", 2, 6);
            r.is("a FAULT takes none: the VALUE", r.x.value(0, 0, 0), -15);
            r.call(4, "row", 0, 0, 5, 0, 0);
            r.call(4, "offset", 0, 0, 1);
            r.call(4, "shake", 0, 0, 1);
            r.fraction("what is SAVED", r.x.saved(0, 0, 0), 0, 1);
            r.land(text, 2);
            r.none("no ROW", r.x.value(0, 0, 0), 6);
            r.fraction("no SHAKE", r.x.saved(0, 0, 0), 1, 1);
            r.call(0, "row", 0, 0, 5, 0, 0);
            r.is("no OFFSET", r.x.value(0, 0, 0), 5);
            r.call(0, "offset", 0, 0, 1);
            r.call(0, "shake", 0, 0, 1);
        }).sees("private static final class Ledger", "private void clear() { rows = 0;", "private void clear() {")
            .sees("private static final class Ledger", "private void clear() { rows = 0; offsets = 0;", "private void clear() { rows = 0;")
            .sees("public int land", "shakes.clear();", "")
            .sees("public int land", "if (faultKind != 0) {", "if (faultKind != 0) { ledger.clear();")
            .sees("public int land", "if (faultKind != 0) {", "if (faultKind != 0) { shakes.clear();");

        book.says("(the latest DAY, AS OF and SMOOTH stay).", r -> {
            r.land("sheet a cells 2 saves 0;mark b;near a 0 a 1;", 3);
            r.call(0, "row", 0, 0, 5, 0, 70);
            r.call(0, "asof", 71);
            r.call(0, "smooth", 3);
            r.land("sheet a cells 2 saves 0;mark b;near a 0 a 1;", 3);
            r.call(5, "row", 0, 0, 5, 0, 69);
            r.call(0, "row", 0, 0, 5, 0, 70);
            r.is("a ROW KNOWN by 71", r.x.value(0, 0, 0), 5);
            r.call(0, "row", 0, 0, 6, 0, 72);
            r.is("one KNOWN later", r.x.value(0, 0, 0), 5);
            r.is("slips by SMOOTH 3", r.x.slips(0, 1), 58);
        }).sees("private static final class Ledger", "private void clear() {", "private void clear() { latestDay = 0;")
            .sees("private static final class Ledger", "private void clear() {", "private void clear() { asOf = LAST_DAY;")
            .sees("public int land", "ledger.clear();", "ledger.clear(); smoothness = SLIP_MOST;");
    }

    /** The LAND is that of three CELLS and a MARK of which nothing else is told. */
    private static void bare(Run r) {
        r.is("CELLS", r.x.many(0), 3);
        r.is("MARKS", r.x.many(1), 1);
        r.is("slips by SMOOTH 0: none is near", r.x.slips(0, 1), 1000);
        for (int cell = 0; cell < 3; cell++) {
            r.is("moves(" + cell + ", 0)", r.x.moves(cell, 0), 0);
            r.fraction("saved at least", r.x.saved(cell, 0, 0), 1, 1);
            r.fraction("saved at most", r.x.saved(cell, 0, 1), 1, 1);
        }
    }
}
