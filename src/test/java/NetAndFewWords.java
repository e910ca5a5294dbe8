/** What the document says of NET and FEW: promises 33 to 36. */
final class NetAndFewWords {
    private static final int LEAST_INT = Integer.MIN_VALUE;
    private static final int MOST_INT = Integer.MAX_VALUE;
    /** Three CELLS: two MARKS of the first, one of the second, one of the third. */
    private static final String LAND = "sheet a cells 3 saves 0;mark p;mark q;mark s;mark t;moves a 0 p 1;moves a 0 q 2;moves a 1 s 1;moves a 2 t 1;";

    private NetAndFewWords() {
    }

    static void tell(Book book) {
        greatest(book);
        purse(book);
        costs(book);
        several(book);
        netCalls(book);
        classes(book);
        between(book);
        severalFew(book);
        fewCall(book);
        fewOf(book);
    }

    private static void net(Run r, int tray, int purse, int rank, int set, int cost) {
        r.is("net(" + tray + ", " + purse + ")", r.x.net(tray, purse), rank);
        r.is("the set", r.x.netTold(0), set);
        r.is("what it costs", r.x.netTold(1), cost);
    }

    private static void greatest(Book book) {
        book.says("NET: of the MARKS that have no VALUES those to be set, so that all MARKS that have VALUES and these have the greatest RANK", r -> {
            r.land(LAND, 9);
            r.write(0, 1, 10, 20, 30, 40);
            net(r, 0, 10000, 3, 13, 80);
            r.call(0, "row", 0, 19, 5, 0, 3);
            net(r, 0, 10000, 3, 12, 70);
            r.call(0, "asof", 2);
            net(r, 0, 10000, 3, 13, 80);
            r.call(0, "asof", 3);
            r.call(0, "row", 2, 0, 5, 0, 4);
            r.call(0, "row", 3, 0, 5, 0, 4);
            net(r, 0, 10000, 3, 12, 70);
            r.call(0, "asof", 4);
            net(r, 0, 10000, 3, 0, 0);
            net(r, 0, 0, 3, 0, 0);
            r.call(0, "row", 1, 0, 5, 0, 4);
            net(r, 0, 10000, 3, 0, 0);
            r.land("sheet a cells 1 saves 0;mark p;mark q;", 3);
            net(r, 0, 10000, 0, 0, 0);
            r.land("mark p;mark q;", 2);
            net(r, 0, 10000, 0, 0, 0);
        }).sees("private int chooseNet", "ranks.of(ground, set | seen, NONE)", "ranks.of(ground, set, NONE)")
            .sees("private int chooseNet", "int seen = ledger.marksWithValues(ground.marks);", "int seen = 0;")
            .sees("private int chooseNet", "found > bestRank ||", "found >= bestRank ||")
            .sees("private int marksWithValues", "if (counts(i, mark))", "if (rowMark[i] == mark)");
    }

    private static void purse(Book book) {
        book.says("for at most a purse (0 to 10,000) together", r -> {
            r.land(LAND, 9);
            r.write(0, 1, 1000, 900, 1000, 1000);
            net(r, 0, 0, 0, 0, 0);
            net(r, 0, 899, 0, 0, 0);
            net(r, 0, 900, 1, 2, 900);
            net(r, 0, 1899, 1, 2, 900);
            net(r, 0, 1900, 2, 6, 1900);
            net(r, 0, 2899, 2, 6, 1900);
            net(r, 0, 2900, 3, 14, 2900);
            net(r, 0, 10000, 3, 14, 2900);
            for (int purse : new int[] {LEAST_INT, -1, 10001, MOST_INT}) {
                r.call(1, "net", 0, purse);
            }
            r.is("a refused one tells nothing new", r.x.netTold(1), 2900);
        }).sees("private int chooseNet", "cost > purse", "cost >= purse")
            .sees("private int chooseNet", "cost > purse", "cost > purse + 1")
            .sees("public int net", "isWithin(purse, 0, PURSE_MOST)", "isWithin(purse, 1, PURSE_MOST)")
            .sees("public int net", "isWithin(purse, 0, PURSE_MOST)", "isWithin(purse, -1, PURSE_MOST)")
            .sees("public int net", "isWithin(purse, 0, PURSE_MOST)", "isWithin(purse, 0, PURSE_MOST - 1)")
            .sees("public int net", "isWithin(purse, 0, PURSE_MOST)", "isWithin(purse, 0, PURSE_MOST + 1)");
    }

    private static void costs(Book book) {
        book.says("by costs (0 to 1,000 each: the first numbers of a TRAY, one for each MARK)", r -> {
            r.land(LAND, 9);
            r.write(0, 2, 0, 1000, 1000, 0, -5, 7000);
            net(r, 0, 10000, 3, 13, 1000);
            for (int mark = 0; mark < 4; mark++) {
                for (long cost : new long[] {Integer.MIN_VALUE, -1, 1001, Integer.MAX_VALUE}) {
                    r.write(0, 2, 1, 1, 1, 1);
                    r.call(0, "write", 0, mark, cost);
                    r.call(1, "net", 0, 10000);
                }
            }
            r.write(0, 3, 1L << 32, 0, 0, 0);
            r.call(1, "net", 0, 10000);
            r.write(0, 3, 0, 0, 0, Long.MIN_VALUE);
            r.call(1, "net", 0, 10000);
            r.write(0, 0, 127, 127, 127, 127);
            net(r, 0, 10000, 3, 13, 381);
            r.land("sheet a cells 6 saves 0;mark k;mark l;mark m;mark n;mark o;mark p;mark q;mark r;moves a 0 r 1;moves a 1 q 1;", 11);
            r.write(1, 1, 1000, 1000, 1000, 1000, 1000, 1000, 1000, 1000);
            net(r, 1, 10000, 2, 192, 2000);
            r.call(0, "tray", 1, 1, 7);
            r.call(3, "net", 1, 10000);
        }).sees("class SlipSheets", "COST_MOST = 1000", "COST_MOST = 999")
            .sees("class SlipSheets", "COST_MOST = 1000", "COST_MOST = 1001")
            .sees("public int net", "costs.allWithin(ground.marks, 0, COST_MOST)", "costs.allWithin(ground.marks, 1, COST_MOST)")
            .sees("public int net", "costs.allWithin(ground.marks, 0, COST_MOST)", "costs.allWithin(ground.marks, -1, COST_MOST)")
            .sees("public int net", "costs.allWithin(ground.marks, 0, COST_MOST)", "costs.allWithin(costs.size, 0, COST_MOST)")
            .sees("public int net", "costs.allWithin(ground.marks, 0, COST_MOST)", "costs.allWithin(ground.marks - 1, 0, COST_MOST)")
            .sees("private boolean allWithin", "at(i) < least || at(i) > most", "(int) at(i) < least || (int) at(i) > most");
    }

    private static void several(Book book) {
        book.says("of several those that cost least", r -> {
            r.land(LAND, 9);
            r.write(0, 1, 9, 8, 7, 6);
            net(r, 0, 100, 3, 14, 21);
            r.write(0, 1, 8, 9, 7, 6);
            net(r, 0, 100, 3, 13, 21);
            r.write(0, 1, 9, 8, 7, 6);
            net(r, 0, 12, 1, 8, 6);
            r.write(0, 1, 0, 8, 0, 0);
            net(r, 0, 100, 3, 13, 0);
        }).sees("private int chooseNet", "found == bestRank && cost < bestCost", "found == bestRank && cost > bestCost")
            .sees("private int chooseNet", "|| (found == bestRank && cost < bestCost)", "");

        book.says("of several the least set.", r -> {
            r.land(LAND, 9);
            r.write(0, 1, 5, 5, 5, 5);
            net(r, 0, 100, 3, 13, 15);
            net(r, 0, 5, 1, 1, 5);
            net(r, 0, 10, 2, 5, 10);
            r.write(0, 1, 0, 0, 0, 0);
            net(r, 0, 0, 3, 13, 0);
            r.write(0, 1, 5, 5, 4, 4);
            net(r, 0, 4, 1, 4, 4);
            net(r, 0, 9, 2, 12, 8);
        }).sees("private int chooseNet", "cost < bestCost", "cost <= bestCost");
    }

    private static void netCalls(Book book) {
        book.says("`int net(int tray, int purse)`: RANK with the NET (1; 2; 3: fewer than MARKS; 1: a cost; asked in this order).", r -> {
            r.call(1, "net", 0, -1);
            r.call(2, "net", 0, 0);
            r.call(0, "tray", 0, 0, 0);
            r.is("no MARKS: an empty TRAY will do", r.x.net(0, 0), 0);
            r.land(LAND, 9);
            r.call(3, "net", 0, 0);
            r.call(1, "net", 0, 10001);
            r.write(0, 2, -1, -1, -1);
            r.call(3, "net", 0, 0);
            r.call(1, "net", 0, -1);
            r.write(0, 2, 1, 1, 1, -1);
            r.call(1, "net", 0, 0);
            r.call(2, "net", 3, 0);
            for (int tray : new int[] {LEAST_INT, -1, 4, MOST_INT}) {
                r.call(1, "net", tray, 0);
            }
            r.write(0, 2, 1, 1, 1, 1);
            r.is("just as many as MARKS", r.x.net(0, 10), 3);
        }).sees("public int net", "costs.size < ground.marks", "costs.size <= ground.marks")
            .sees("public int net", "costs.size < ground.marks", "costs.size < ground.marks - 1")
            .sees("public int net", "if (costs.size < ground.marks) { return refuse(NO_PLACE); } if (!costs.allWithin(ground.marks, 0, COST_MOST)) { return refuse(BAD_NUMBER); }",
                "if (!costs.allWithin(Math.min(costs.size, ground.marks), 0, COST_MOST)) { return refuse(BAD_NUMBER); } if (costs.size < ground.marks) { return refuse(NO_PLACE); }")
            .sees("public int net", "!isWithin(purse, 0, PURSE_MOST)", "!trays[tray].isMissing() && !isWithin(purse, 0, PURSE_MOST)");

        book.says("`int netTold(int what)`: Of net() latest with STATUS 0, what 0: the set, 1: what it costs (1; 6).", r -> {
            r.call(6, "netTold", 0);
            r.call(6, "netTold", 1);
            r.call(1, "netTold", 2);
            r.call(1, "netTold", -1);
            r.call(2, "net", 0, 0);
            r.call(6, "netTold", 0);
            r.land(LAND, 9);
            r.write(0, 1, 4, 4, 4, 4);
            net(r, 0, 12, 3, 13, 12);
            r.call(2, "net", 1, 12);
            r.call(1, "net", 0, -1);
            r.call(0, "write", 0, 0, 1001);
            r.call(1, "net", 0, 12);
            r.land("mark p;", 1);
            r.is("the set stays", r.x.netTold(0), 13);
            r.is("what it costs stays", r.x.netTold(1), 12);
            for (int what : new int[] {LEAST_INT, -1, 2, MOST_INT}) {
                r.call(1, "netTold", what);
            }
            r.call(0, "write", 0, 0, 5);
            net(r, 0, 12, 0, 0, 0);
        }).sees("class SlipSheets", "netSet = NONE;", "netSet = 0;")
            .sees("public int netTold", "isOneOf(what, 2)", "isOneOf(what, 3)")
            .sees("public int netTold", "netSet < 0", "netSet <= 0")
            .sees("public int netTold", "what == 0 ? netSet : netCost", "what == 1 ? netSet : netCost")
            .sees("public int land", "shakes.clear();", "shakes.clear(); netSet = NONE;")
            .sees("public int net", "return refuse(TRAY_MISSING);", "netSet = NONE; return refuse(TRAY_MISSING);");
    }

    private static void few(Run r, int tray, int many, int least, int most, int shakes, int... times) {
        r.is("few(" + tray + ", " + many + ", " + least + ", " + most + ")", r.x.few(tray, many, least, most), shakes);
        for (int k = 0; k < times.length; k++) {
            r.is("fewOf(" + k + ")", r.x.fewOf(k), times[k]);
        }
        r.none("fewOf(" + times.length + ")", r.x.fewOf(times.length), 6);
    }

    private static void classes(Book book) {
        book.says("FEW: SHAKES of n classes (1 to 8)", r -> {
            r.write(0, 0, 50, 40, 30, 20, 10, 5, 2, 1, 99);
            few(r, 0, 1, 100, 100, 2, 2);
            few(r, 0, 8, 98, 98, 5, 1, 1, 0, 0, 0, 1, 1, 1);
            few(r, 0, 7, 97, 97, 4, 1, 1, 0, 0, 0, 1, 1);
            for (int many : new int[] {LEAST_INT, -1, 0, 9, MOST_INT}) {
                r.call(1, "few", 0, many, 98, 98);
            }
        }).sees("class SlipSheets", "CLASSES_MOST = 8", "CLASSES_MOST = 7")
            .sees("class SlipSheets", "CLASSES_MOST = 8", "CLASSES_MOST = 9")
            .sees("public int few", "isWithin(many, 1, CLASSES_MOST)", "isWithin(many, 0, CLASSES_MOST)")
            .sees("public int few", "isWithin(many, 1, CLASSES_MOST)", "isWithin(many, 2, CLASSES_MOST)");

        book.says("each letting go so many units (1 to 99: the first n numbers of a TRAY)", r -> {
            r.write(0, 2, 1, 99, 100, 0);
            few(r, 0, 2, 100, 100, 2, 1, 1);
            r.call(1, "few", 0, 3, 100, 100);
            r.write(0, 2, 5, 0);
            r.call(1, "few", 0, 2, 5, 5);
            for (long units : new long[] {Integer.MIN_VALUE, -1, 0, 100, Integer.MAX_VALUE}) {
                r.write(0, 2, units, 5);
                r.call(1, "few", 0, 1, 5, 5);
                r.call(1, "few", 0, 2, 5, 5);
            }
            r.write(1, 3, (1L << 32) + 5);
            r.call(1, "few", 1, 1, 5, 5);
            r.write(1, 0, 5, 155);
            few(r, 1, 1, 5, 5, 1, 1);
            r.call(1, "few", 1, 2, 5, 5);
        }).sees("public int few", "classes.allWithin(many, 1, UNITS_MOST)", "classes.allWithin(many, 0, UNITS_MOST)")
            .sees("public int few", "classes.allWithin(many, 1, UNITS_MOST)", "classes.allWithin(many, 2, UNITS_MOST)")
            .sees("public int few", "classes.allWithin(many, 1, UNITS_MOST)", "classes.allWithin(many, 1, UNITS_MOST - 1)")
            .sees("public int few", "classes.allWithin(many, 1, UNITS_MOST)", "classes.allWithin(many, 1, UNITS_MOST + 1)")
            .sees("public int few", "classes.allWithin(many, 1, UNITS_MOST)", "classes.allWithin(many - 1, 1, UNITS_MOST)")
            .sees("private boolean allWithin", "at(i) < least || at(i) > most", "(int) at(i) < least || (int) at(i) > most");
    }

    private static void between(Book book) {
        book.says("the fewest that let go between a least and a most (0 to 2,000 each) together, each class as often as wanted", r -> {
            r.write(0, 0, 7, 3);
            few(r, 0, 2, 0, 0, 0, 0, 0);
            few(r, 0, 2, 0, 2000, 0, 0, 0);
            few(r, 0, 2, 1, 2000, 1, 0, 1);
            few(r, 0, 2, 8, 10, 2, 1, 1);
            few(r, 0, 2, 8, 9, 3, 0, 3);
            few(r, 0, 1, 14, 14, 2, 2);
            few(r, 0, 1, 8, 14, 2, 2);
            r.call(6, "few", 0, 1, 8, 13);
            r.call(6, "few", 0, 2, 8, 8);
            few(r, 0, 1, 1995, 2000, 285, 285);
            few(r, 0, 2, 2000, 2000, 288, 284, 4);
            r.write(0, 0, 1);
            few(r, 0, 1, 2000, 2000, 2000, 2000);
            for (int beyond : new int[] {LEAST_INT, -1, 2001, MOST_INT}) {
                r.call(1, "few", 0, 1, beyond, 2000);
                r.call(1, "few", 0, 1, 0, beyond);
            }
        }).sees("public int few", "isWithin(least, 0, FEW_MOST)", "isWithin(least, 1, FEW_MOST)")
            .sees("public int few", "isWithin(least, 0, FEW_MOST)", "isWithin(least, -1, FEW_MOST)")
            .sees("public int few", "isWithin(most, 0, FEW_MOST)", "isWithin(most, 0, FEW_MOST + 1)")
            .sees("class SlipSheets", "FEW_MOST = 2000", "FEW_MOST = 1999")
            .sees("private int find(Tray", "sum <= most && sum <= FEW_MOST", "sum < most && sum <= FEW_MOST")
            .sees("private void countFewest", "sum <= most && sum <= FEW_MOST", "sum < most && sum <= FEW_MOST");
    }

    private static void severalFew(Book book) {
        book.says("of several that which lets go least", r -> {
            r.write(0, 0, 5, 6, 9);
            few(r, 0, 3, 1, 99, 1, 1, 0, 0);
            few(r, 0, 3, 5, 6, 1, 1, 0, 0);
            few(r, 0, 3, 6, 99, 1, 0, 1, 0);
            few(r, 0, 3, 10, 18, 2, 2, 0, 0);
            few(r, 0, 3, 12, 18, 2, 0, 2, 0);
            few(r, 0, 3, 16, 18, 2, 0, 0, 2);
        }).sees("private int find(Tray", "fewest[sum] < fewest[total]", "fewest[sum] <= fewest[total]")
            .sees("private int find(Tray", "int total = least;", "int total = Math.min(least + 1, most);");

        book.says("of several class by class the lesser number of times.", r -> {
            r.write(0, 0, 2, 3, 4, 3);
            few(r, 0, 4, 6, 6, 2, 0, 0, 0, 2);
            few(r, 0, 3, 6, 6, 2, 0, 2, 0);
            r.write(0, 0, 7, 7, 7, 7, 7, 7, 7, 7);
            few(r, 0, 8, 1, 99, 1, 0, 0, 0, 0, 0, 0, 0, 1);
            few(r, 0, 8, 21, 21, 3, 0, 0, 0, 0, 0, 0, 0, 3);
            r.write(0, 0, 9, 1, 6, 4);
            few(r, 0, 4, 10, 10, 2, 0, 0, 1, 1);
            r.write(0, 0, 9, 1, 6, 5);
            few(r, 0, 4, 10, 10, 2, 0, 0, 0, 2);
            few(r, 0, 3, 10, 10, 2, 1, 1, 0);
            r.write(0, 0, 5, 2, 3);
            few(r, 0, 3, 8, 8, 2, 1, 0, 1);
            few(r, 0, 3, 15, 15, 3, 3, 0, 0);
        }).sees("private void share", "countFewest(i + 1, many, sum);", "countFewest(i, many, sum);")
            .sees("private void share", "left -= time;", "left += time;")
            .sees("private void share", "int time = 0; while (time < left && sum >= units[i] && fewest[sum] != left - time) { sum -= units[i]; time++; }",
                "int time = 0; int at = -1; int rest = sum; for (int n = 0; n <= left && rest >= 0; n++, rest -= units[i]) { if (fewest[rest] == left - n) { at = n; } } time = Math.max(at, 0); sum -= time * units[i];");
    }

    private static void fewCall(Book book) {
        book.says("`int few(int tray, int many, int least, int most)`: FEW of so many classes: how many SHAKES (1: most below least, too; 2; 3; 1: a number; "
            + "6: it can't be; asked in this order).", r -> {
            r.call(1, "few", 0, 1, 5, 4);
            r.call(1, "few", 0, 0, 4, 5);
            r.call(2, "few", 0, 1, 4, 5);
            r.call(2, "few", 0, 8, 5, 5);
            r.call(1, "few", 4, 1, 5, 5);
            r.call(1, "few", -1, 1, 5, 5);
            r.call(1, "few", LEAST_INT, 1, 5, 5);
            r.call(1, "few", MOST_INT, 1, 5, 5);
            r.call(0, "tray", 0, 0, 0);
            r.call(3, "few", 0, 1, 5, 5);
            r.write(0, 0, 7, 0);
            r.call(3, "few", 0, 3, 5, 5);
            r.call(1, "few", 0, 3, 5, 4);
            r.call(1, "few", 0, 2, 5, 5);
            r.call(6, "few", 0, 1, 5, 5);
            r.call(6, "few", 0, 1, 8, 13);
            r.is("just as many as the TRAY has", r.x.few(0, 1, 7, 7), 1);
            r.write(0, 0, 7, 5);
            r.is("just as many as the TRAY has", r.x.few(0, 2, 12, 12), 2);
            r.is("least and most alike", r.x.few(0, 2, 5, 5), 1);
        }).sees("public int few", "|| most < least", "")
            .sees("public int few", "most < least", "most <= least")
            .sees("public int few", "classes.size < many", "classes.size <= many")
            .sees("public int few", "classes.size < many", "classes.size < many - 1")
            .sees("public int few", "if (classes.size < many) { return refuse(NO_PLACE); } if (!classes.allWithin(many, 1, UNITS_MOST)) { return refuse(BAD_NUMBER); }",
                "if (!classes.allWithin(Math.min(classes.size, many), 1, UNITS_MOST)) { return refuse(BAD_NUMBER); } if (classes.size < many) { return refuse(NO_PLACE); }")
            .sees("public int few", "refuse(NONE_SUCH)", "answer(NONE)");
    }

    private static void fewOf(Book book) {
        book.says("`int fewOf(int k)`: How often a class, by few() latest with STATUS 0 (1: below 0; 6).", r -> {
            r.call(6, "fewOf", 0);
            r.call(6, "fewOf", 7);
            r.call(6, "fewOf", MOST_INT);
            r.call(1, "fewOf", -1);
            r.call(1, "fewOf", LEAST_INT);
            r.call(2, "few", 0, 1, 5, 5);
            r.call(6, "fewOf", 0);
            r.write(0, 0, 5, 7);
            few(r, 0, 2, 17, 17, 3, 2, 1);
            r.call(6, "few", 0, 2, 1, 4);
            r.call(1, "few", 0, 2, 4, 1);
            r.call(0, "write", 0, 0, 0);
            r.call(1, "few", 0, 2, 17, 17);
            r.land("mark p;", 1);
            r.is("it stays", r.x.fewOf(0), 2);
            r.is("it stays", r.x.fewOf(1), 1);
            r.call(6, "fewOf", 2);
            r.call(1, "fewOf", -1);
            r.write(0, 0, 1, 1, 1, 1, 1, 1, 1, 1);
            r.is("of eight", r.x.few(0, 8, 3, 3), 3);
            r.is("the eighth", r.x.fewOf(7), 3);
            r.call(6, "fewOf", 8);
            r.is("of one", r.x.few(0, 1, 3, 3), 3);
            r.call(6, "fewOf", 1);
        }).sees("public int fewOf", "k < 0", "k < -1")
            .sees("public int fewOf", "k >= fewest.toldClasses ||", "k > fewest.toldClasses ||")
            .sees("public int fewOf", "k >= fewest.toldClasses ||", "")
            .sees("class Few", "toldClasses = 0;", "toldClasses = 1;")
            .sees("private int find(Tray", "if (found >= NEVER) { return NONE; }", "if (found >= NEVER) { toldClasses = 0; return NONE; }")
            .sees("private int find(Tray", "share(many, total, found);", "")
            .sees("private int find(Tray", "int found = fewest[total]; if (found >= NEVER) { return NONE; } share(many, total, found);",
                "int found = fewest[total]; share(many, total, found); if (found >= NEVER) { return NONE; }");
    }
}
