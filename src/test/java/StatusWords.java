import java.util.ArrayList;
import java.util.List;

/** What the document says of a new object, of STATUS and of refused calls: promise 1 and part 5. */
final class StatusWords {
    /** For each argument of a call what it may be / what it can't be; .. is the least and the most int. */
    private static final String[] LIMITS = {
        "tray 0 0 5 | 0 3 / -1 4 .. | 0 3 / -1 4 .. | 0 60 / -1 61 ..",
        "write 0 0 5 | 0 3 / -1 4 .. | | -1 300 /",
        "read 0 0 | 0 3 / -1 4 .. |",
        "pour 0 0 1 0 1 | 0 3 / -1 4 .. | 0 99 / -1 | 0 3 / -1 4 .. | 0 99 / -1 | 0 99 / -1",
        "land 0 | 0 20 / -1 21 ..",
        "many 0 | 0 1 / -1 2 ..",
        "moves 0 0 | 0 2 / -1 3 .. | 0 2 / -1 3 ..",
        "row 0 5 10 1 3 | 0 2 / -1 3 .. | 0 19 / -1 20 .. | -2000 2000 / -2001 2001 .. | 0 200 / -1 201 .. | 3 9999 / -1 10000 ..",
        "offset 0 0 0 | 0 2 / -1 3 .. | 0 19 / -1 20 .. | -2000 2000 / -2001 2001 ..",
        "asof 0 | 0 9999 / -1 10000 ..",
        "value 0 5 0 | 0 2 / -1 3 .. | 0 19 / -1 20 .. | 0 1 / -1 2 ..",
        "line 0 0 19 0 | 0 2 / -1 3 .. | 0 19 / -1 20 .. | 0 19 / -1 20 .. | 0 1 / -1 2 ..",
        "line 0 5 5 0 | | 5 / 6 | 5 / 4 |",
        "breaks 0 | 0 2 / -1 3 ..",
        "slow 0 2 0 0 | 0 2 / -1 3 .. | 2 10 / 1 11 0 -1 .. | 0 99 / -1 | 0 2 / -1 3 ..",
        "smooth 0 | 0 9 / -1 10 ..",
        "slips 5 10 | 0 9 / -1 10 11 20 .. | 6 19 / 5 4 20 -1 ..",
        "ends 5 10 1 0 | 0 9 / -1 10 11 20 .. | 6 19 / 5 4 20 -1 .. | 1 7 / 0 -1 8 .. | 0 1 / -1 2 ..",
        "first 5 10 0 | 0 9 / -1 10 11 20 .. | 6 19 / 5 4 20 -1 .. | 0 2 / -1 3 ..",
        "corner 5 10 | 0 9 / -1 10 11 20 .. | 6 19 / 5 4 20 -1 ..",
        "quarrel 5 10 0 | 0 9 / -1 10 11 20 .. | 6 19 / 5 4 20 -1 .. | 0 2 / -1 3 ..",
        "without 5 10 0 | 0 9 / -1 10 11 20 .. | 6 19 / 5 4 20 -1 .. | 0 2 / -1 3 ..",
        "rank 0 0 | 0 7 / -1 8 16 .. | 0 1 / -1 2 ..",
        "apart 0 0 | 0 2 / -1 3 .. | 0 7 / -1 8 16 ..",
        "odds 5 10 1 0 | 0 9 / -1 10 11 20 .. | 6 19 / 5 4 20 -1 .. | 1 7 / 0 -1 8 .. | 0 54 / -1 55 ..",
        "shake 0 0 0 | 0 19 / -1 20 .. | 0 2 / -1 3 .. | 0 99 / -1 100 ..",
        "saved 0 0 0 | 0 2 / -1 3 .. | 0 19 / -1 20 .. | 0 1 / -1 2 ..",
        "net 0 0 | 0 3 / -1 4 .. | 0 10000 / -1 10001 ..",
        "netTold 0 | 0 1 / -1 2 ..",
        "few 0 1 0 2000 | 0 3 / -1 4 .. | 1 8 / 0 -1 9 .. | 0 2000 / -1 2001 .. | 0 2000 / -1 2001 ..",
        "few 0 1 5 5 | | | 5 / 6 | 5 / 4",
        "fewOf 0 | 0 9 / -1"};
    /** Calls that are refused in a rich object, with their STATUS: other ones than 1. */
    private static final String[] REFUSED = {
        "2 write 3 0 1", "2 read 3 0", "2 pour 0 0 3 0 1", "2 pour 3 0 0 0 1", "2 net 3 5", "2 few 3 1 0 5",
        "3 write 0 8 1", "3 write 0 -1 1", "3 read 0 8", "3 read 0 -1", "3 pour 0 6 1 0 3", "3 pour 0 0 1 1 3", "3 net 2 5", "3 few 2 3 0 5",
        "5 row 0 0 5 5 2", "5 row 2 19 0 0 0",
        "6 value 2 19 0", "6 value 2 19 1", "6 line 0 19 19 0", "6 slow 0 2 9 0", "6 slow 0 10 0 0", "6 quarrel 0 15 0", "6 few 1 1 6 9", "6 fewOf 3",
        "8 pour 0 0 2 0 1", "8 pour 2 0 1 9 9"};
    private static final String[] REFUSED_WHEN_FULL = {"4 row 0 0 1 1 3", "4 row 0 0 1 1 9999", "4 row 0 0 1 1 0", "4 offset 0 0 1", "4 shake 0 0 1"};

    private StatusWords() {
    }

    static void tell(Book book) {
        newObject(book);
        calls(book);
        order(book);
        numbersThatCantBe(book);
        others(book);
        nothingElse(book);
        noStatus(book);
        namesNoBoundary(book);
    }

    private static long[] numbers(String text) {
        String trimmed = text.trim();
        if (trimmed.isEmpty()) {
            return new long[0];
        }
        List<Long> numbers = new ArrayList<>();
        for (String word : trimmed.split(" +")) {
            if (word.equals("..")) {
                numbers.add((long) Integer.MIN_VALUE);
                numbers.add((long) Integer.MAX_VALUE);
            } else {
                numbers.add(Long.valueOf(word));
            }
        }
        return numbers.stream().mapToLong(Long::longValue).toArray();
    }

    private static void newObject(Book book) {
        book.says("`SlipSheets()`: No LAND; TRAYS are MISSING; an empty tape; AS OF 9,999, SMOOTH 9; the FRACTION 0 by 1; STATUS 0.", r -> {
            r.due("status()", r.x.status(), 0);
            r.due("top()", r.x.top(), 0);
            r.due("bottom()", r.x.bottom(), 1);
            r.due("fault(0)", r.x.fault(0), -1);
            r.call(1, "land", 1);
            r.is("no CELLS", r.x.many(0), 0);
            r.is("no MARKS", r.x.many(1), 0);
            for (int tray = 0; tray < 4; tray++) {
                r.call(2, "read", tray, 0);
            }
            r.due("feed", r.x.feed(0x20202020, 0x20202020, 0x20202020, 0x20202020, 0x20202020), 20);
            r.call(0, "land", 20);
            r.call(6, "netTold", 0);
            r.call(6, "fewOf", 0);
            r.land("sheet a cells 2 saves 0;mark b;near a 0 a 1;", 3);
            r.is("SMOOTH 9", r.x.slips(0, 1), 100);
            r.call(0, "row", 0, 0, 5, 0, 0);
            r.call(0, "row", 0, 0, 6, 0, 9999);
            r.is("AS OF 9,999", r.x.value(0, 0, 0), 6);
        }).sees("class SlipSheets", "latestStatus = FINE;", "latestStatus = NONE_SUCH;")
            .sees("class SlipSheets", "fractionTop = 0;", "fractionTop = 1;")
            .sees("class SlipSheets", "fractionBottom = 1;", "fractionBottom = 0;")
            .sees("class SlipSheets", "smoothness = SLIP_MOST;", "smoothness = 0;")
            .sees("class Ledger", "asOf = LAST_DAY;", "asOf = 0;")
            .sees("class Reader", "private int size = 0;", "private int size = 20;")
            .sees("class Tray", "private int size = NONE;", "private int size = 1;");

        book.says("Ahead of any LAND there are no CELLS and MARKS.", r -> {
            r.is("CELLS", r.x.many(0), 0);
            r.is("MARKS", r.x.many(1), 0);
            for (String call : new String[] {"moves 0 0", "row 0 0 0 0 0", "offset 0 0 0", "value 0 0 0", "line 0 0 1 0", "breaks 0", "slow 0 2 0 0",
                "ends 0 1 1 0", "first 0 1 0", "without 0 1 0", "rank 1 0", "apart 0 0", "odds 0 1 1 0", "shake 0 0 0", "saved 0 0 0"}) {
                r.call(1, name(call), arguments(call));
            }
            for (String call : new String[] {"slips 0 1", "corner 0 1", "quarrel 0 1 0"}) {
                r.call(6, name(call), arguments(call));
            }
            r.is("RANK of none", r.x.rank(0, 0), 0);
            r.is("HIDDEN of none", r.x.rank(0, 1), 0);
            r.call(0, "tray", 0, 0, 0);
            r.is("a NET of none", r.x.net(0, 0), 0);
            r.faulty("sheet a cells 1 saves 0;mark b", 2, 30);
            r.is("CELLS behind a FAULT", r.x.many(0), 0);
            r.is("MARKS behind a FAULT", r.x.many(1), 0);
        }).sees("class Land", "private int cells;", "private int cells = 1;")
            .sees("class Land", "private int marks;", "private int marks = 1;")
            .sees("public int land", "if (faultKind != 0) {", "if (faultKind != 0) { ground = reader.trade(ground);");

        book.says("The constants: `NONE = -1`: None.", r -> r.due("NONE", noneOf(), -1))
            .sees("class SlipSheets", "NONE = -1", "NONE = -2");
    }

    /** By the class itself: the compiler puts a constant's number where it is named. */
    private static int noneOf() {
        try {
            return SlipSheets.class.getField("NONE").getInt(null);
        } catch (ReflectiveOperationException missing) {
            return 0;
        }
    }

    private static void calls(Book book) {
        book.says("An object is used for at most 512 calls after it has been made; what later calls answer is free.", r -> {
            r.x.tray(0, 3, 60);
            for (int i = 1; i < 511; i++) {
                if (!r.x.write(0, i % 60, i)) {
                    r.due("write " + i, 0, 1);
                }
            }
            r.due("the 512th call", r.x.read(0, 510 % 60), 510);
        }).sees("private boolean allow", "latestStatus = FINE;", "netCost--; if (netCost < -500) { return deny(ONE_TOO_MANY); }");
    }

    private static String name(String call) {
        return call.split(" ")[0];
    }

    private static long[] arguments(String call) {
        return numbers(call.substring(call.indexOf(' ')));
    }

    // ---- STATUS

    private static void order(Book book) {
        book.says("STATUS of a call is the first of these that holds", r -> {
            Rich.make(r, true);
            // 1 ahead of 2, 3, 4, 5, 6, 9
            for (String call : new String[] {"net 3 -1", "few 3 9 0 0", "pour 3 -1 3 9 9", "net 2 10001", "few 2 3 5 4", "row 0 0 0 201 3", "row 3 0 0 0 0",
                "offset 0 20 0", "shake 0 3 0", "value 2 19 2", "line 0 19 19 2", "breaks 3", "slow 2 11 9 0", "slow 0 2 -1 0", "quarrel 0 15 3", "fewOf -1",
                "netTold 2", "land 21"}) {
                r.call(1, name(call), arguments(call));
            }
            // 2 ahead of 3; 3 ahead of 6; 4 ahead of 5
            r.call(2, "write", 3, 99, 1);
            r.call(2, "read", 3, -1);
            r.call(3, "few", 2, 3, 0, 0);
            r.call(4, "row", 0, 0, 0, 0, 0);
            r.call(9, "land", 20);
            r.land("mark p;", 1);
            // 1 ahead of 6 where there are no CELLS
            for (String call : new String[] {"slips 1 1", "corner 1 1", "quarrel 1 1 0", "quarrel 0 1 3", "without 0 1 1", "without 1 1 0"}) {
                r.call(1, name(call), arguments(call));
            }
            r.call(6, "without", 0, 1, 0);
        }).sees("public boolean row", "if (!isMark(mark)", "if (known < ledger.latestDay) { return deny(DAY_GONE); } if (!isMark(mark)")
            .sees("private int refusalOfPlace", "if (trays[tray].isMissing()) { return TRAY_MISSING; } return", "if (place < 0 || place > 60) { return NO_PLACE; } if (trays[tray].isMissing()) { return TRAY_MISSING; } return")
            .sees("public int without", "if (!areYears(from, to) || !isMark(mark)) {", "if (ground.cells == 0) { return refuse(NONE_SUCH); } if (!areYears(from, to) || !isMark(mark)) {")
            .sees("public int value", "if (!isMark(mark) ||", "if (isMark(mark) && isYear(year)) { ledger.gather(mark); if (!ledger.has[year]) { return refuse(NONE_SUCH); } } if (!isMark(mark) ||");
    }

    private static void numbersThatCantBe(Book book) {
        book.says("1 a number that can't be; no such TRAY, MARK, CELL, YEAR.", r -> {
            for (String limits : LIMITS) {
                String[] parts = (limits + " ").split("\\|");
                for (int argument = 0; argument + 1 < parts.length; argument++) {
                    limit(r, parts[0].trim(), argument, parts[argument + 1]);
                }
            }
        }).sees("private static boolean isTray", "TRAYS", "TRAYS - 1")
            .sees("private static boolean isWithin", "number <= most", "number < most")
            .sees("private static boolean isWithin", "number >= least", "number > least")
            .sees("private static boolean isOneOf", "what < many", "what <= many")
            .sees("public int apart", "!isSetOfMarks(marks)", "!isOneOf(marks, SETS_OF_MARKS)")
            .sees("public int quarrel", "!areYears(from, to) ||", "!isYear(from) || !isYear(to) ||")
            .sees("public int ends", "!areYears(from, to) ||", "!isYear(from) || !isYear(to) ||");
    }

    /** "what it may be / what it can't be": with the one STATUS is another than 1, with the other it is 1. */
    private static void limit(Run r, String call, int argument, String values) {
        if (values.trim().isEmpty()) {
            return;
        }
        String[] mayAndCant = (values + " ").split("/");
        long[] arguments = arguments(call);
        for (int cant = 0; cant < 2; cant++) {
            for (long value : numbers(mayAndCant[cant])) {
                long[] changed = arguments.clone();
                changed[argument] = value;
                Run s = small(r.again());
                long got = Face.call(s.x, name(call), changed);
                s.due("STATUS 1 behind " + Face.told(name(call), changed), s.x.status() == 1 ? 1 : 0, cant);
                s.due(Face.told(name(call), changed) + " gives NONE or false", cant == 0 || got == (Face.isYesOrNo(name(call)) ? 0 : -1) ? 1 : 0, 1);
            }
        }
    }

    /** Three CELLS and three MARKS, four TRAYS, the latest DAY 3, 20 blanks on the tape. */
    private static Run small(Run r) {
        r.x.tray(0, 2, 8);
        r.x.tray(1, 2, 8);
        r.x.tray(2, 2, 8);
        r.x.tray(3, 2, 8);
        for (int tray = 0; tray < 4; tray++) {
            for (int place = 0; place < 8; place++) {
                r.x.write(tray, place, 5);
            }
        }
        r.feed(Rich.LAND);
        r.x.land(Rich.LAND.length());
        r.x.row(0, 5, 1, 0, 3);
        r.x.net(0, 100);
        r.x.few(0, 1, 5, 5);
        r.feed(" ");
        return r;
    }

    private static void others(Book book) {
        book.says("2 the TRAY is MISSING.", r -> refused(Rich.make(r, false), '2'))
            .sees("public boolean pour", "source.isMissing() ||", "false ||")
            .sees("public int net", "return refuse(TRAY_MISSING);", "return refuse(NO_PLACE);")
            .sees("public int few", "return refuse(TRAY_MISSING);", "return refuse(NO_PLACE);")
            .sees("private int refusalOfPlace", "return TRAY_MISSING;", "return BAD_NUMBER;");
        book.says("3 a place that the TRAY has not, or too few numbers.", r -> refused(Rich.make(r, false), '3'))
            .sees("public int net", "return refuse(NO_PLACE);", "return refuse(BAD_NUMBER);")
            .sees("public int few", "return refuse(NO_PLACE);", "return refuse(BAD_NUMBER);")
            .sees("private int refusalOfPlace", "NO_PLACE;", "BAD_NUMBER;")
            .sees("public boolean pour", "return deny(NO_PLACE);", "return deny(BAD_NUMBER);");
        book.says("4 one too many.", r -> {
            Rich.make(r, true);
            for (String call : REFUSED_WHEN_FULL) {
                r.call(4, name(call.substring(2)), arguments(call.substring(2)));
            }
        }).sees("public boolean row", "return deny(ONE_TOO_MANY);", "return deny(BAD_NUMBER);")
            .sees("public boolean offset", "return deny(ONE_TOO_MANY);", "return deny(BAD_NUMBER);")
            .sees("public boolean shake", "return deny(ONE_TOO_MANY);", "return deny(BAD_NUMBER);");
        book.says("5 a DAY that is gone.", r -> refused(Rich.make(r, false), '5'))
            .sees("public boolean row", "known < ledger.latestDay", "known < ledger.asOf")
            .sees("public boolean row", "return deny(DAY_GONE);", "return deny(BAD_NUMBER);");
        book.says("6 there is none such.", r -> refused(Rich.make(r, false), '6'))
            .sees("public int value", "return refuse(NONE_SUCH);", "return refuse(BAD_NUMBER);")
            .sees("public int line", "return refuse(NONE_SUCH);", "return refuse(BAD_NUMBER);")
            .sees("public int slow", "refuse(NONE_SUCH)", "refuse(BAD_NUMBER)")
            .sees("public int few", "refuse(NONE_SUCH)", "refuse(BAD_NUMBER)")
            .sees("public int fewOf", "return refuse(NONE_SUCH);", "return refuse(BAD_NUMBER);");
        book.says("8 TRAYS are of unlike sorts.", r -> {
            refused(Rich.make(r, false), '8');
            for (int from = 0; from < 4; from++) {
                for (int to = 0; to < 4; to++) {
                    Run s = r.again();
                    s.call(0, "tray", 0, from, 1);
                    s.call(0, "tray", 1, to, 1);
                    s.call(from == to ? 0 : 8, "pour", 0, 0, 1, 0, 1);
                }
            }
        }).sees("public boolean pour", "source.sort != target.sort", "source.sort > target.sort")
            .sees("public boolean pour", "source.sort != target.sort", "(source.sort & 1) != (target.sort & 1)")
            .sees("public boolean pour", "source.sort != target.sort", "(source.sort & 2) != (target.sort & 2)")
            .sees("public boolean pour", "return deny(UNLIKE_SORTS);", "return deny(BAD_NUMBER);");
        book.says("9 a FAULT.", r -> {
            for (String text : new String[] {"?", "mark", "mark a;mark a;", "sheet a cells 7 saves 1;", "sheet a cells 1 saves 1;mark b;moves a 0 b 10;",
                "sheet a cells 6 saves 1;sheet b cells 1 saves 1;"}) {
                r.feed(text);
                r.call(9, "land", text.length());
            }
            r.due("the latest of all six kinds", r.x.fault(0), 6);
        }).sees("public int land", "return refuse(FAULTY);", "return refuse(faultKind);");
        book.says("0 else.", r -> {
            for (String call : new String[] {"tray 3 0 1", "write 0 0 1", "read 0 0", "pour 0 0 1 0 3", "many 0", "moves 0 0", "row 0 0 0 0 3", "offset 0 0 0",
                "asof 2", "value 0 0 0", "line 0 0 15 0", "breaks 0", "slow 0 2 0 0", "smooth 4", "slips 0 15", "ends 0 15 1 0", "first 0 15 0", "corner 0 15",
                "without 0 15 0", "rank 7 0", "apart 0 7", "odds 0 15 1 0", "shake 0 0 0", "saved 0 0 0", "net 0 0", "netTold 0", "few 0 1 30 30", "fewOf 0",
                "land 0"}) {
                Run s = Rich.make(r.again(), false);
                s.call(2, "read", 3, 0);
                s.call(0, name(call), arguments(call));
            }
        }).sees("private int answer", "latestStatus = FINE;", "")
            .sees("private boolean allow", "latestStatus = FINE;", "")
            .sees("public long read", "latestStatus = FINE;", "");
    }

    private static void refused(Run r, char status) {
        for (String call : REFUSED) {
            if (call.charAt(0) == status) {
                r.call(status - '0', name(call.substring(2)), arguments(call.substring(2)));
            }
        }
    }

    // ---- refused calls

    private static void nothingElse(Book book) {
        book.says("With another STATUS than 0 a call gives NONE, or false, and changes nothing else", r -> {
            for (String limits : LIMITS) {
                String[] parts = (limits + " ").split("\\|");
                for (int argument = 0; argument + 1 < parts.length; argument++) {
                    String[] mayAndCant = (parts[argument + 1] + " ").split("/");
                    long[] cant = mayAndCant.length > 1 ? numbers(mayAndCant[1]) : new long[0];
                    if (cant.length > 0) {
                        long[] changed = arguments(parts[0].trim());
                        changed[argument] = cant[0];
                        changesNothing(r, false, 1, name(parts[0]), changed);
                    }
                }
            }
            for (String call : REFUSED) {
                changesNothing(r, false, call.charAt(0) - '0', name(call.substring(2)), arguments(call.substring(2)));
            }
            for (String call : REFUSED_WHEN_FULL) {
                changesNothing(r, true, 4, name(call.substring(2)), arguments(call.substring(2)));
            }
        }).sees("private boolean deny", "latestStatus = why;", "latestStatus = why; smoothness = 1;")
            .sees("private int refuse", "latestStatus = why;", "latestStatus = why; fractionTop = 0; fractionBottom = 1;")
            .sees("public boolean row", "if (known < ledger.latestDay) {", "if (known < ledger.latestDay) { ledger.latestDay = known;")
            .sees("public boolean row", "if (ledger.rows >= ROWS_MOST) {", "if (ledger.rows >= ROWS_MOST) { ledger.latestDay = known;")
            .sees("public boolean tray", "return deny(BAD_NUMBER);", "trays[0].size = NONE; return deny(BAD_NUMBER);")
            .sees("public boolean pour", "return deny(NO_PLACE);", "target.numbers[0] = 0; return deny(NO_PLACE);")
            .sees("public int land", "return refuse(BAD_NUMBER);", "reader.size = 0; return refuse(BAD_NUMBER);")
            .sees("public boolean shake", "return deny(ONE_TOO_MANY);", "shakes.size--; return deny(ONE_TOO_MANY);")
            .sees("private int find(Tray", "if (found >= NEVER) { return NONE; }", "toldClasses = many; if (found >= NEVER) { return NONE; }")
            .sees("public int net", "return refuse(NO_PLACE);", "netCost = 0; return refuse(NO_PLACE);");

        book.says("(but land() with 9 the tape, and what fault() tells).", r -> {
            Run untouched = Rich.make(r.again(), false);
            Run asked = Rich.make(r.again(), false);
            asked.call(9, "land", 20);
            asked.due("the FAULT", asked.x.fault(0), 1);
            asked.due("its place", asked.x.fault(1), 0);
            asked.call(1, "land", 1);
            // what is told alike again: a tape of as many bytes, the FAULT and its place
            asked.feed("?");
            untouched.call(9, "land", 20);
            untouched.feed("?");
            Rich.same(r, Rich.answers(untouched.x), Rich.answers(asked.x), "land(20)");
            Run s = Rich.make(r.again(), false);
            s.call(9, "land", 1);
            s.due("a tape that is empty", s.x.feed(0, 0, 0, 0, 0), 20);
            s.is("the LAND stays", s.x.many(0), 3);
            s.is("its ROWS stay", s.x.value(0, 0, 0), 0);
            s.call(5, "row", 0, 0, 0, 0, 2);
            s.is("what is told of NET stays", s.x.netTold(0), 4);
            s.is("what is told of FEW stays", s.x.fewOf(0), 1);
            s.due("the FRACTION stays", s.x.top(), Rich.make(r.again(), false).x.top());
        }).sees("private int readParts", "size = 0;", "")
            .sees("public int land", "faultPlace = reader.place;", "")
            .sees("public int land", "if (faultKind != 0) {", "if (faultKind != 0) { ledger.clear();")
            .sees("public int land", "if (faultKind != 0) {", "if (faultKind != 0) { netSet = 0;");
    }

    private static void changesNothing(Run r, boolean isFull, int status, String name, long[] arguments) {
        Run untouched = Rich.make(r.again(), isFull);
        Run asked = Rich.make(r.again(), isFull);
        asked.call(status, name, arguments);
        Rich.same(r, Rich.answers(untouched.x), Rich.answers(asked.x), Face.told(name, arguments));
        Run askedToo = Rich.make(r.again(), isFull);
        askedToo.call(status, name, arguments);
        Rich.same(r, Rich.answersOfNextLand(Rich.make(r.again(), isFull).x), Rich.answersOfNextLand(askedToo.x), Face.told(name, arguments));
    }

    private static void noStatus(Book book) {
        book.says("status(), top(), bottom(), feed(), fault() have none.", r -> {
            for (String call : new String[] {"0 many 0", "1 many 2", "2 read 0 0"}) {
                int status = call.charAt(0) - '0';
                Run s = r.again();
                s.call(status, name(call.substring(2)), arguments(call.substring(2)));
                s.x.top();
                s.x.bottom();
                for (int what = -1; what <= 2; what++) {
                    s.x.fault(what);
                    s.due("STATUS behind fault(" + what + ")", s.x.status(), status);
                }
                for (int i = 1; i <= 31; i++) {
                    s.x.feed(0, 0, 0, 0, 0);
                    s.due("STATUS behind feed " + i, s.x.status(), status);
                }
                s.due("STATUS asked again", s.x.status(), status);
            }
        }).sees("public int feed", "return NONE;", "return refuse(ONE_TOO_MANY);")
            .sees("public int fault", "what == 1 ? faultPlace : NONE", "what == 1 ? faultPlace : refuse(BAD_NUMBER)")
            .sees("public int feed", "return reader.size;", "return answer(reader.size);")
            .sees("public long top", "return fractionTop;", "latestStatus = FINE; return fractionTop;")
            .sees("public int status", "return latestStatus;", "int told = latestStatus; latestStatus = FINE; return told;");
    }

    private static void namesNoBoundary(Book book) {
        for (String words : new String[] {"of a MARK in a YEAR", "==== 2.", "==== 3.", "==== 4.", "==== 5.",
            "A house for marks that move by the year over sheets that slip under ground: a land told as a text of sheets, cells, marks and how a cell's "
                + "slip moves each mark; rows of marks by years with spans, instruments changed, late rows, all as known; lines through them by least squares, "
                + "where they break, where they run beside them; the slips that the marks let, between two ends, smoothed or not; what no mark can tell; marks "
                + "that quarrel; what is saved in stuck cells and let go by shakes; marks to be set for a purse; how few shakes let go what is saved; odds for "
                + "a land. ==== 1.",
            "How the state is held inside the object is free, as are the speed of each call, the text of toString and the behaviour of equals and hashCode. "
                + "Use of one object from several threads at once is not promised to be safe. Nothing is promised beyond the answers and state changes "
                + "described above, and nothing about an object after its 512th call."}) {
            book.namesNoBoundary(words);
        }
    }
}
