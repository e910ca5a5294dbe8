/** What the document says of TRAYS: promises 5 to 8. */
final class TrayWords {
    private static final int LEAST_INT = Integer.MIN_VALUE;
    private static final int MOST_INT = Integer.MAX_VALUE;

    private TrayWords() {
    }

    static void tell(Book book) {
        terms(book);
        trayAndWrite(book);
        readCall(book);
        pours(book);
    }

    private static void terms(Book book) {
        book.says("TRAYS 0 to 3 are MISSING at first", r -> {
            for (int tray = 0; tray <= 3; tray++) {
                r.call(2, "read", tray, 0);
                r.call(2, "write", tray, 0, 1);
                r.call(2, "pour", tray, 0, tray, 0, 0);
                r.call(2, "net", tray, 0);
                r.call(2, "few", tray, 1, 0, 0);
            }
            r.call(0, "tray", 3, 0, 1);
            r.call(0, "read", 3, 0);
            r.call(2, "read", 2, 0);
            for (int tray : new int[] {LEAST_INT, -1, 4, MOST_INT}) {
                r.call(1, "tray", tray, 0, 1);
                r.call(1, "read", tray, 0);
                r.call(1, "write", tray, 0, 1);
            }
        }).sees("class Tray", "private int size = NONE;", "private int size = 0;")
            .sees("class SlipSheets", "TRAYS = 4;", "TRAYS = 3;")
            .sees("class SlipSheets", "TRAYS = 4;", "TRAYS = 5;");

        book.says("rows of 0 to 60 numbers", r -> {
            for (int sort = 0; sort <= 3; sort++) {
                r.call(0, "tray", sort, sort, 0);
                r.reads(sort);
                r.call(0, "tray", sort, sort, 60);
                r.call(0, "write", sort, 59, 7);
                r.is("the 60th number", r.x.read(sort, 59), 7);
                r.call(3, "write", sort, 60, 7);
                for (int many : new int[] {LEAST_INT, -1, 61, MOST_INT}) {
                    r.call(1, "tray", sort, sort, many);
                }
                r.is("the TRAY is as it was", r.x.read(sort, 59), 7);
            }
        }).sees("public boolean tray", "many < 0", "many < 1")
            .sees("public boolean tray", "many < 0", "many < -1")
            .sees("public boolean tray", "many > TRAY_MOST", "many >= TRAY_MOST")
            .sees("public boolean tray", "many > TRAY_MOST", "many > TRAY_MOST + 1")
            .sees("class SlipSheets", "TRAY_MOST = 60", "TRAY_MOST = 61");

        book.says("of 8 bits (sort 0), 16 (1), 32 (2) or 64 (3)", r -> {
            for (int sort = 0; sort <= 3; sort++) {
                long least = Long.MIN_VALUE >> 64 - (8 << sort);
                long most = -1 - least;
                r.write(sort, sort, least, most, least - 1, most + 1, 2 * most + 1, 2 * most + 2, 2 * most + 3);
                r.reads(sort, least, most, most, least, -1, 0, 1);
            }
            for (int sort : new int[] {LEAST_INT, -1, 4, MOST_INT}) {
                r.call(1, "tray", 0, sort, 1);
            }
        }).sees("private void put", "(byte) v", "v & 255")
            .sees("private void put", "(short) v", "v & 65535")
            .sees("private void put", "(int) v", "v")
            .sees("private void put", "} else { numbers[place] = v;", "} else { numbers[place] = (int) v;")
            .sees("public boolean tray", "sort < 0", "sort < -1")
            .sees("class SlipSheets", "SORTS = 4", "SORTS = 3")
            .sees("class SlipSheets", "SORTS = 4", "SORTS = 5");
    }

    private static void trayAndWrite(Book book) {
        book.says("`boolean tray(int tray, int sort, int many)`: A TRAY is a row of so many 0s (1).", r -> {
            r.write(1, 3, 5, 6, 7);
            r.call(1, "tray", 1, 3, 61);
            r.call(1, "tray", 1, 4, 3);
            r.call(1, "tray", 4, 3, 3);
            r.reads(1, 5, 6, 7);
            r.call(0, "tray", 1, 3, 3);
            r.reads(1, 0, 0, 0);
            r.write(1, 3, 5, 6, 7);
            r.call(0, "tray", 1, 3, 1);
            r.call(0, "tray", 1, 2, 3);
            r.reads(1, 0, 0, 0);
            r.call(0, "tray", 1, 0, 0);
            r.reads(1);
        }).sees("private void lay", "Arrays.fill(numbers, 0L);", "")
            .sees("private void lay", "size = newSize;", "size = Math.max(size, newSize);");

        book.says("`boolean write(int tray, int place, long v)`: A number comes to a place of a TRAY, cut to its sort (1, 2, 3).", r -> {
            r.call(1, "write", -1, -1, 5);
            r.call(1, "write", 4, 0, 5);
            r.call(2, "write", 0, 0, 5);
            r.call(2, "write", 0, 60, 5);
            r.call(0, "tray", 0, 0, 2);
            r.call(3, "write", 0, 2, 5);
            r.call(3, "write", 0, -1, 5);
            r.call(3, "write", 0, LEAST_INT, 5);
            r.call(3, "write", 0, MOST_INT, 5);
            r.reads(0, 0, 0);
            r.call(0, "write", 0, 0, 128);
            r.call(0, "write", 0, 1, -129);
            r.reads(0, -128, 127);
        }).sees("private int refusalOfPlace", "trays[tray].size) ? FINE", "TRAY_MOST) ? FINE")
            .sees("private int refusalOfPlace", "return TRAY_MISSING;", "return NO_PLACE;")
            .sees("private int refusalOfPlace", "isOneOf(place, trays[tray].size)", "place < trays[tray].size")
            .sees("private void put", "(byte) v", "(short) v");
    }

    private static void readCall(Book book) {
        book.says("`long read(int tray, int place)`: The number in a place of a TRAY; STATUS tells NONE from -1 (1, 2, 3).", r -> {
            r.none("read(-1, -1)", r.x.read(-1, -1), 1);
            r.none("read(4, 0)", r.x.read(4, 0), 1);
            r.none("read(3, -1) of a TRAY that is MISSING", r.x.read(3, -1), 2);
            r.write(3, 3, -1, Long.MIN_VALUE, Long.MAX_VALUE);
            r.is("a number -1", r.x.read(3, 0), -1);
            r.is("the least", r.x.read(3, 1), Long.MIN_VALUE);
            r.is("the most", r.x.read(3, 2), Long.MAX_VALUE);
            for (int place : new int[] {LEAST_INT, -1, 3, 60, MOST_INT}) {
                r.none("read(3, " + place + ")", r.x.read(3, place), 3);
            }
            r.is("a number -1 behind NONE", r.x.read(3, 0), -1);
        }).sees("public long read", "return refuse(refusal);", "return answer(NONE);")
            .sees("public long read", "latestStatus = FINE;", "")
            .sees("public long read", "trays[tray].at(place)", "(int) trays[tray].at(place)")
            .sees("private int refusalOfPlace", "isOneOf(place, trays[tray].size)", "isWithin(place, 0, trays[tray].size)");
    }

    private static void pours(Book book) {
        book.says("`boolean pour(int from, int place, int to, int at, int many)`: So many numbers of a TRAY, from a place on, come to another one's (or its own) place on, as they were", r -> {
            r.write(0, 2, 1, 2, 3, 4, 5);
            r.write(1, 2, 9, 9, 9);
            r.yes("the last three to all of another", r.x.pour(0, 2, 1, 0, 3));
            r.reads(1, 3, 4, 5);
            r.reads(0, 1, 2, 3, 4, 5);
            r.yes("its own, on by one", r.x.pour(0, 0, 0, 1, 4));
            r.reads(0, 1, 1, 2, 3, 4);
            r.yes("its own, back by one", r.x.pour(0, 1, 0, 0, 4));
            r.reads(0, 1, 2, 3, 4, 4);
            r.yes("its own, where it is", r.x.pour(0, 0, 0, 0, 5));
            r.reads(0, 1, 2, 3, 4, 4);
            r.yes("none", r.x.pour(0, 0, 1, 0, 0));
            r.yes("none, from the end to the end", r.x.pour(0, 5, 1, 3, 0));
            r.reads(1, 3, 4, 5);
            r.call(0, "tray", 2, 2, 0);
            r.yes("none of an empty TRAY", r.x.pour(2, 0, 2, 0, 0));
        }).sees("public boolean pour", "System.arraycopy(source.numbers, place, target.numbers, at, many);",
                "for (int i = 0; i < many; i++) { target.numbers[at + i] = source.numbers[place + i]; }")
            .sees("public boolean pour", "System.arraycopy(source.numbers, place, target.numbers, at, many);",
                "for (int i = many - 1; i >= 0; i--) { target.numbers[at + i] = source.numbers[place + i]; }")
            .sees("private boolean reaches", "place <= size", "place < size")
            .sees("private boolean reaches", "many <= size - place", "many < size - place");

        book.says("(1: below 0, too; 2; 8; 3; asked in this order)", r -> {
            r.write(0, 2, 1, 2, 3);
            r.write(1, 2, 4, 5);
            r.write(2, 1, 6, 7);
            r.call(1, "pour", -1, 0, 3, 0, 1);
            r.call(1, "pour", 3, 0, 4, 0, 1);
            r.call(1, "pour", 3, -1, 3, 0, 1);
            r.call(1, "pour", 3, 0, 3, -1, 1);
            r.call(1, "pour", 3, 0, 3, 0, -1);
            r.call(1, "pour", 0, LEAST_INT, 2, 0, 0);
            r.call(2, "pour", 3, 99, 2, 99, 99);
            r.call(2, "pour", 2, 99, 3, 99, 99);
            r.call(8, "pour", 0, 99, 2, 99, 99);
            r.call(8, "pour", 2, 0, 0, 0, 0);
            r.call(3, "pour", 0, 1, 1, 0, 3);
            r.call(3, "pour", 0, 0, 1, 0, 3);
            r.call(3, "pour", 0, 4, 1, 0, 0);
            r.call(3, "pour", 0, 0, 1, 3, 0);
            r.call(3, "pour", 0, MOST_INT, 1, 0, MOST_INT);
            r.call(3, "pour", 0, 1, 1, 1, MOST_INT);
            r.reads(0, 1, 2, 3);
            r.reads(1, 4, 5);
            r.reads(2, 6, 7);
        }).sees("public boolean pour", "|| place < 0", "")
            .sees("public boolean pour", "|| at < 0", "")
            .sees("public boolean pour", "|| many < 0", "")
            .sees("public boolean pour", "|| target.isMissing()", "")
            .sees("public boolean pour", "source.sort != target.sort", "source.sort < target.sort")
            .sees("public boolean pour", "return deny(UNLIKE_SORTS)", "return deny(NO_PLACE)")
            .sees("public boolean pour", "!source.reaches(place, many) ||", "")
            .sees("public boolean pour", "|| !target.reaches(at, many)", "")
            .sees("private boolean reaches", "many <= size - place", "many + place <= size");
    }
}
