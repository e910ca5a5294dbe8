/** For each promise of the document its ordinary answers, the edges that it names, and wrong inputs. */
public final class PromiseTest {
    private static final int NONE = SlipSheets.NONE;
    private static final int LEAST_INT = Integer.MIN_VALUE;
    private static final int MOST_INT = Integer.MAX_VALUE;

    public static void main(String[] args) {
        newObject();
        statusStays();
        trays();
        trayCuts();
        pours();
        feeds();
        lands();
        faultsOfTokens();
        faultsOfPlaces();
        faultsOfNames();
        faultsOfNumbers();
        faultsOfSums();
        faultsOfTooMany();
        landReplaces();
        manyAndMoves();
        rowsAndDays();
        rowLimit();
        offsets();
        asOf();
        lines();
        breaks();
        slows();
        slipsAndEnds();
        smoothness();
        slipsOfSixCells();
        quarrels();
        ranks();
        odds();
        shakesAndSaved();
        nets();
        fews();
        Run.end("PromiseTest");
    }

    private static void newObject() {
        Run r = new Run("1 a new object");
        SlipSheets x = r.x;
        r.due("status()", x.status(), 0);
        r.due("top()", x.top(), 0);
        r.due("bottom()", x.bottom(), 1);
        r.due("fault(0)", x.fault(0), NONE);
        r.due("fault(1)", x.fault(1), NONE);
        r.is("many(0)", x.many(0), 0);
        r.is("many(1)", x.many(1), 0);
        for (int tray = 0; tray < 4; tray++) {
            r.none("read", x.read(tray, 0), 2);
        }
        r.none("land(1)", x.land(1), 1);
        r.none("first", x.first(0, 1, 0), 1);
        r.none("ends", x.ends(0, 1, 1, 0), 1);
        r.none("odds", x.odds(0, 1, 1, 0), 1);
        r.none("without", x.without(0, 1, 0), 1);
        r.none("slips", x.slips(0, 1), 6);
        r.none("corner", x.corner(0, 1), 6);
        r.none("quarrel", x.quarrel(0, 1, 0), 6);
        r.is("rank(0, 0)", x.rank(0, 0), 0);
        r.is("rank(0, 1)", x.rank(0, 1), 0);
        r.none("rank(1, 0)", x.rank(1, 0), 1);
        r.none("netTold(0)", x.netTold(0), 6);
        r.none("fewOf(0)", x.fewOf(0), 6);
        r.yes("tray", x.tray(0, 0, 0));
        r.is("net without MARKS", x.net(0, 0), 0);
        r.is("netTold(0)", x.netTold(0), 0);
        r.is("netTold(1)", x.netTold(1), 0);
    }

    private static void statusStays() {
        Run r = new Run("2 status");
        SlipSheets x = r.x;
        x.many(2);
        x.feed(0, 0, 0, 0, 0);
        x.fault(0);
        x.fault(7);
        x.top();
        x.bottom();
        r.due("status() behind calls that have none", x.status(), 1);
        r.due("and once more", x.status(), 1);
        x.many(0);
        r.due("status()", x.status(), 0);
    }

    private static void trays() {
        Run r = new Run("5 to 7 trays");
        SlipSheets x = r.x;
        r.no("tray(-1)", x.tray(-1, 0, 1), 1);
        r.no("tray(4)", x.tray(4, 0, 1), 1);
        r.no("sort -1", x.tray(0, -1, 1), 1);
        r.no("sort 4", x.tray(0, 4, 1), 1);
        r.no("many -1", x.tray(0, 0, -1), 1);
        r.no("many 61", x.tray(0, 0, 61), 1);
        r.none("read of what is still missing", x.read(0, 0), 2);
        r.no("write", x.write(-1, 0, 1), 1);
        r.no("write", x.write(4, 0, 1), 1);
        r.no("write", x.write(0, -1, 1), 2);
        r.yes("tray(0, 3, 60)", x.tray(0, 3, 60));
        r.is("read(0, 59)", x.read(0, 59), 0);
        r.none("read(0, 60)", x.read(0, 60), 3);
        r.none("read(0, -1)", x.read(0, -1), 3);
        r.none("read", x.read(0, MOST_INT), 3);
        r.none("read(-1, 0)", x.read(-1, 0), 1);
        r.none("read(4, 0)", x.read(4, 0), 1);
        r.no("write(0, 60)", x.write(0, 60, 5), 3);
        r.no("write(0, -1)", x.write(0, -1, 5), 3);
        r.yes("write(0, 59)", x.write(0, 59, 5));
        r.is("read(0, 59)", x.read(0, 59), 5);
        r.yes("write -1", x.write(0, 3, -1));
        r.is("read of -1", x.read(0, 3), -1);
        r.no("a tray that can't be", x.tray(0, 9, 3), 1);
        r.is("the tray stays", x.read(0, 59), 5);
        r.yes("tray(0, 1, 2)", x.tray(0, 1, 2));
        r.is("read(0, 1)", x.read(0, 1), 0);
        r.none("read(0, 2)", x.read(0, 2), 3);
        r.yes("tray(3, 0, 0)", x.tray(3, 0, 0));
        r.none("read(3, 0)", x.read(3, 0), 3);
        r.yes("tray(0, 3, 60)", x.tray(0, 3, 60));
        r.is("0s again", x.read(0, 59), 0);
    }

    private static void trayCuts() {
        Run r = new Run("6 cut to the sort");
        long[] written = {127, 128, 255, 256, -129, 32767, 32768, 65535, 2147483647L, 2147483648L, Long.MAX_VALUE, Long.MIN_VALUE};
        for (int sort = 0; sort < 4; sort++) {
            r.write(sort, sort, written);
            for (int i = 0; i < written.length; i++) {
                long v = written[i];
                long want = sort == 0 ? (byte) v : sort == 1 ? (short) v : sort == 2 ? (int) v : v;
                r.is("read(" + sort + ", " + i + ")", r.x.read(sort, i), want);
            }
        }
    }

    private static void pours() {
        Run r = new Run("8 pour");
        SlipSheets x = r.x;
        r.write(0, 2, 1, 2, 3, 4, 5);
        r.write(1, 2, 0, 0, 0);
        r.write(2, 1, 9, 9, 9, 9, 9);
        r.yes("pour", x.pour(0, 1, 1, 0, 3));
        r.is("read", x.read(1, 0), 2);
        r.is("read", x.read(1, 2), 4);
        r.yes("pour onto itself, on", x.pour(0, 0, 0, 1, 4));
        long[] want = {1, 1, 2, 3, 4};
        for (int i = 0; i < 5; i++) {
            r.is("read(0, " + i + ")", x.read(0, i), want[i]);
        }
        r.yes("pour onto itself, back", x.pour(0, 1, 0, 0, 4));
        long[] back = {1, 2, 3, 4, 4};
        for (int i = 0; i < 5; i++) {
            r.is("read(0, " + i + ")", x.read(0, i), back[i]);
        }
        r.no("no such tray", x.pour(-1, 0, 1, 0, 1), 1);
        r.no("no such tray", x.pour(0, 0, 4, 0, 1), 1);
        r.no("place below 0", x.pour(0, -1, 1, 0, 1), 1);
        r.no("at below 0", x.pour(0, 0, 1, -1, 1), 1);
        r.no("many below 0, ahead of 2", x.pour(3, 0, 1, 0, -1), 1);
        r.no("missing", x.pour(3, 0, 1, 0, 1), 2);
        r.no("missing, ahead of 8 and 3", x.pour(2, 99, 3, 0, 1), 2);
        r.no("unlike, ahead of 3", x.pour(0, 99, 2, 99, 99), 8);
        r.no("too many from", x.pour(0, 2, 1, 0, 4), 3);
        r.no("too many to", x.pour(0, 0, 1, 1, 3), 3);
        r.no("overflow", x.pour(0, MOST_INT, 1, 0, MOST_INT), 3);
        r.no("overflow", x.pour(0, 1, 1, 1, MOST_INT), 3);
        r.no("a place that is not there", x.pour(0, 6, 1, 0, 0), 3);
        r.yes("none", x.pour(0, 0, 1, 0, 0));
        r.yes("none at the end", x.pour(0, 5, 1, 3, 0));
        r.is("read", x.read(1, 0), 2);
    }

    private static void feeds() {
        Run r = new Run("9 feed");
        SlipSheets x = r.x;
        for (int i = 1; i <= 30; i++) {
            r.due("feed " + i, x.feed(0x6d61726b, 0x20610a3b, 0x20202020, 0x20202020, 0x20202020), 20L * i);
        }
        r.due("a 31st", x.feed(0, 0, 0, 0, 0), NONE);
        r.none("land(601)", x.land(601), 1);
        r.none("land(-1)", x.land(-1), 1);
        r.due("the tape stays", x.feed(0, 0, 0, 0, 0), NONE);
        r.is("land(20): the highest byte first", x.land(20), 1);
        r.due("the tape is empty", x.feed(0, 0, 0, 0, 0), 20);
        r.none("land(21)", x.land(21), 1);
        r.due("fault(0) is of the one ahead", x.fault(0), 0);
    }

    private static void lands() {
        Run r = new Run("10 land");
        SlipSheets x = r.x;
        r.is("land(0)", x.land(0), 0);
        r.due("fault(0)", x.fault(0), 0);
        r.due("fault(1)", x.fault(1), NONE);
        r.due("fault(2)", x.fault(2), NONE);
        r.due("fault(-1)", x.fault(-1), NONE);
        r.land(" \n \n", 0);
        r.land("mark a;", 1);
        r.land("\n mark\na\n;", 1);
        r.land("sheet abcdefgh cells 6 saves 999;mark a;mark b;", 3);
        r.is("many(0)", x.many(0), 6);
        r.is("many(1)", x.many(1), 2);
        r.land("sheet a cells0001saves0000;", 1);
        r.land("sheet a cells 1 saves 0;mark b;sheet c cells 2 saves 5;near a 0 c 1;moves c 1 b 3;stuck c 0 from 0 to 100;", 6);
        r.is("moves(2, 0)", x.moves(2, 0), 3);
        r.is("moves(1, 0)", x.moves(1, 0), 0);
        r.land("sheet sheeta cells 1 saves 0;mark top;mark fro;", 3);
        String[] sums = {"1", "-1", "2*3-4", "2-3*4+5", "(2-3)*4", "-(2-3)*4", "--2", "- - -2", "1-1-1", "1--1", "2*-3",
            "((((((3))))))", "------3", "-(-(-(3)))", "(1)*(2)", "9", "-9", "0", "9999*0", "100-91"};
        int[] values = {1, -1, 2, -5, -4, 4, 2, -2, -1, 2, -6, 3, 3, -3, 2, 9, -9, 0, 0, 9};
        for (int i = 0; i < sums.length; i++) {
            r.land("sheet a cells 1 saves 0;mark b;moves a 0 b " + sums[i] + ";", 3);
            r.is("moves by " + sums[i], x.moves(0, 0), values[i]);
        }
        // 2 to the power 64 is 0 of 64 bits, 2 to the power 62 times 4 and 5 on is 5
        r.land("sheet a cells 1 saves 0;mark b;moves a 0 b 256*256*256*256*256*256*256*256;", 3);
        r.is("round on", x.moves(0, 0), 0);
        r.land("sheet a cells 1 saves 0;mark b;moves a 0 b 4096*4096*4096*4096*4096*4*4+5;", 3);
        r.is("round on", x.moves(0, 0), 5);
        r.feed("mark a;mark b;");
        r.is("only the first 7 bytes", x.land(7), 1);
        r.is("many(1)", x.many(1), 1);
    }

    private static void faultsOfTokens() {
        Run r = new Run("11 fault 1");
        r.faultyAt("!?", 1);
        r.faultyAt("!A", 1);
        r.faultyAt("mark a;\n !\t", 1);
        r.faultyAt("mark a!\r;", 1);
        r.faultyAt("mark a; !" + (char) 200, 1);
        r.faultyAt("mark a;!" + (char) 0, 1);
        r.faultyAt("mark !12345;", 1);
        r.faultyAt("!00000", 1);
        r.faultyAt("sheet a cells !123456 saves 1;", 1);
        r.faultyAt("sheet a cells 1 saves 0;mark b;moves a 0 b 1+!10000;", 1);
        r.faultyAt("mark !5 ?;", 2);
        r.faultyAt("sheet a cells 1 saves 0;mark b;moves a 0 b 99!,;", 1);
    }

    private static void faultsOfPlaces() {
        Run r = new Run("11 fault 2");
        r.faultyAt("!x", 2);
        r.faultyAt("!;", 2);
        r.faultyAt("!cells", 2);
        r.faultyAt("mark a;!mak", 2);
        r.faultyAt("!marka;", 2);
        r.faultyAt("mark !;", 2);
        r.faultyAt("mark !abcdefghi;", 2);
        r.faultyAt("mark!", 2);
        r.faultyAt("mark a  \n!", 2);
        for (String word : new String[] {"sheet", "cells", "saves", "mark", "near", "moves", "stuck", "from", "to"}) {
            r.faultyAt("mark !" + word + ";", 2);
            r.faultyAt("sheet !" + word + " cells 1 saves 1;", 2);
        }
        r.faultyAt("mark a !1;", 2);
        r.faultyAt("sheet a !saves 1 cells 1;", 2);
        r.faultyAt("sheet a cells !a saves 1;", 2);
        r.faultyAt("sheet a cells 1 !1;", 2);
        r.faultyAt("sheet a cells 1 saves !;", 2);
        r.faultyAt("sheet a cells 1 saves 1!", 2);
        r.faultyAt("sheet a cells !-1 saves 1;", 2);
        String land = "sheet a cells 2 saves 1;mark b;";
        r.faultyAt(land + "near !0 a 1;", 2);
        r.faultyAt(land + "near a !a 1;", 2);
        r.faultyAt(land + "near a 0 !1;", 2);
        r.faultyAt(land + "near a 0 a 1 !2;", 2);
        r.faultyAt(land + "moves a 0 !0 b;", 2);
        r.faultyAt(land + "moves a 0 b !;", 2);
        r.faultyAt(land + "moves a 0 b !+1;", 2);
        r.faultyAt(land + "moves a 0 b 1 !1;", 2);
        r.faultyAt(land + "moves a 0 b 1*!*1;", 2);
        r.faultyAt(land + "moves a 0 b 1+!;", 2);
        r.faultyAt(land + "moves a 0 b (1!;", 2);
        r.faultyAt(land + "moves a 0 b (!);", 2);
        r.faultyAt(land + "moves a 0 b 1!);", 2);
        r.faultyAt(land + "moves a 0 b 99!", 2);
        r.faultyAt(land + "moves a 0 b 1!b;", 2);
        r.faultyAt(land + "stuck a 0 !to 1 from 2;", 2);
        r.faultyAt(land + "stuck a 0 from 1 !2;", 2);
        r.faultyAt(land + "stuck a 0 from 1 to 2!", 2);
    }

    private static void faultsOfNames() {
        Run r = new Run("11 fault 3");
        r.faultyAt("mark a;mark !a;", 3);
        r.faultyAt("mark a;sheet !a cells 9 saves 1;", 3);
        r.faultyAt("sheet a cells 1 saves 1;sheet !a cells 1 saves 1;", 3);
        r.faultyAt("sheet a cells 1 saves 1;mark !a?", 3);
        r.faultyAt("mark a;mark b;mark c;mark d;mark e;mark f;mark g;mark h;mark !a;", 3);
        String land = "sheet a cells 2 saves 1;mark b;";
        r.faultyAt(land + "near !b 0 a 1;", 3);
        r.faultyAt(land + "near a 0 !b 1;", 3);
        r.faultyAt(land + "near a 0 !c 1;", 3);
        r.faultyAt(land + "moves !b 0 a 1;", 3);
        r.faultyAt(land + "moves a 0 !a 1;", 3);
        r.faultyAt(land + "moves a 0 !c 1;", 3);
        r.faultyAt(land + "stuck !b 0 from 1 to 2;", 3);
        r.faultyAt("moves !a 0 b 1;sheet a cells 1 saves 1;", 3);
        r.faultyAt("sheet ab cells 1 saves 1;stuck !a 0 from 1 to 2;", 3);
        r.faultyAt("mark abc;mark abd;mark bbc;mark !abc;", 3);
        r.faultyAt("sheet abc cells 1 saves 1;mark abd;moves abc 0 !abe 1;", 3);
        r.land("mark abcdefgh;mark abcdefgg;sheet bbcdefgh cells 1 saves 1;sheet aacdefgh cells 1 saves 1;moves aacdefgh 0 abcdefgg 4;", 5);
        r.is("the second MARK, the second SHEET", r.x.moves(1, 1), 4);
        r.is("not the first ones", r.x.moves(0, 0), 0);
        r.land("sheet u cells 1 saves 1;mark a;sheet v cells 1 saves 1;mark b;sheet w cells 1 saves 1;mark c;sheet x cells 1 saves 1;"
            + "mark d;sheet y cells 1 saves 1;mark e;mark f;mark g;sheet z cells 1 saves 1;mark h;moves z 0 h 7;moves u 0 a -7;", 16);
        r.is("the last CELL and MARK of all", r.x.moves(5, 7), 7);
        r.is("the first ones", r.x.moves(0, 0), -7);
    }

    private static void faultsOfNumbers() {
        Run r = new Run("11 fault 4");
        r.faultyAt("sheet a cells !0 saves 1;", 4);
        r.faultyAt("sheet a cells !7 saves 1;", 4);
        r.faultyAt("sheet a cells 6 saves 1;sheet b cells !7 saves 1;", 4);
        r.faultyAt("sheet a cells 1 saves !1000;", 4);
        String land = "sheet a cells 2 saves 1;sheet b cells 1 saves 1;mark c;";
        r.faultyAt(land + "near a !2 b 0;", 4);
        r.faultyAt(land + "near a 0 b !1;", 4);
        r.faultyAt(land + "near a 1 a !1;", 4);
        r.faultyAt(land + "near a 1 a !2;", 4);
        r.faultyAt(land + "moves b !1 c 1;", 4);
        r.faultyAt(land + "stuck b !1 from 1 to 2;", 4);
        r.faultyAt(land + "stuck b 0 from !101 to 102;", 4);
        r.faultyAt(land + "stuck b 0 from 50 to !101;", 4);
        r.faultyAt(land + "stuck b 0 from 50 to !49;", 4);
        r.land(land + "stuck b 0 from 50 to 50;near a 0 b 0;", 5);
        r.land(land + "stuck b 0 from 0 to 0;stuck a 1 from 100 to 100;", 5);
    }

    private static void faultsOfSums() {
        Run r = new Run("11 fault 5");
        String land = "sheet a cells 1 saves 1;mark b;";
        r.faultyAt(land + "moves a 0 b !10;", 5);
        r.faultyAt(land + "moves a 0 b !-10;", 5);
        r.faultyAt(land + "moves a 0 b !(5)*2;", 5);
        r.faultyAt(land + "moves a 0 b !5+5; mark", 5);
        r.faultyAt(land + "moves a 0 b ((((((!(1)))))));", 5);
        r.faultyAt(land + "moves a 0 b ------!-1;", 5);
        r.faultyAt(land + "moves a 0 b -(-(-(!-1)));", 5);
        r.faultyAt(land + "moves a 0 b -(-(-(1+!-1)));", 5);
        r.faultyAt(land + "moves a 0 b 1+((((((2*!(1)))))));", 5);
        r.faultyAt(land + "moves a 0 b ------!-?", 5);
        r.faultyAt(land + "moves a 0 b ------!;", 2);
        r.land(land + "moves a 0 b ((((((1-1-1))))))-((((((1))))));", 3);
    }

    private static void faultsOfTooMany() {
        Run r = new Run("11 fault 6");
        r.faultyAt("sheet a cells 4 saves 1;sheet b cells !3 saves 1;", 6);
        r.faultyAt("sheet a cells 6 saves 1;sheet b cells !1 ?", 6);
        r.faultyAt("mark a;mark b;mark c;mark d;mark e;mark f;mark g;mark h;mark !i?", 6);
        String land = "sheet a cells 3 saves 1;mark b;";
        r.faultyAt(land + "near a 0 a 1;!near a 0 a 1;", 6);
        r.faultyAt(land + "near a 0 a 1;!near a 1 a 0;", 6);
        r.faultyAt(land + "near a 0 a 1;near a 1 a 0!", 2);
        r.faultyAt(land + "near a 0 a 1;near a 1 a !3;", 4);
        r.faultyAt(land + "moves a 0 b 0;!moves a 0 b 0;", 6);
        r.faultyAt(land + "moves a 0 b 0;!moves a 0 b 99;", 6);
        r.faultyAt(land + "moves a 0 b 0;moves a 0 b 99 !1;", 2);
        r.faultyAt(land + "stuck a 0 from 100 to 100;!stuck a 0 from 1 to 2;", 6);
        r.faultyAt(land + "stuck a 0 from 100 to 100;stuck a 0 from 3 to !2;", 4);
        r.land(land + "near a 0 a 1;near a 1 a 2;near a 0 a 2;moves a 0 b 1;moves a 1 b 1;stuck a 0 from 1 to 2;stuck a 2 from 1 to 2;", 9);
    }

    private static void landReplaces() {
        Run r = new Run("10 what a LAND takes and leaves");
        SlipSheets x = r.x;
        r.land("sheet a cells 1 saves 100;mark b;moves a 0 b 1;", 3);
        r.yes("row", x.row(0, 0, 5, 0, 7));
        r.yes("offset", x.offset(0, 0, 2));
        r.yes("shake", x.shake(0, 0, 1));
        r.yes("asof", x.asof(7));
        r.yes("smooth", x.smooth(3));
        r.write(0, 0, 1);
        r.is("net", x.net(0, 5), 1);
        r.is("few", x.few(0, 1, 2, 2), 2);
        r.fraction("saved", x.saved(0, 0, 0), 0, 1);
        r.faulty("mark", 2, 4);
        r.is("a FAULT leaves the LAND", x.value(0, 0, 0), 3);
        r.due("a FAULT empties the tape", x.feed(0, 0, 0, 0, 0), 20);
        r.is("land(0)", x.land(0), 0);
        r.is("many(0)", x.many(0), 0);
        r.land("sheet a cells 2 saves 100;mark b;moves a 0 b 1;near a 0 a 1;", 4);
        r.none("ROWS are gone", x.value(0, 0, 0), 6);
        r.fraction("SHAKES are gone", x.saved(0, 0, 0), 1, 1);
        r.no("the latest DAY stays", x.row(0, 0, 5, 0, 6), 5);
        r.yes("row", x.row(0, 0, 5, 0, 8));
        r.none("AS OF stays", x.value(0, 0, 0), 6);
        r.yes("asof", x.asof(8));
        r.is("OFFSETS are gone", x.value(0, 0, 0), 5);
        r.is("SMOOTH stays", x.slips(0, 1), 58);
        r.is("the NET told stays", x.netTold(0), 0);
        r.is("the FEW told stays", x.fewOf(0), 2);
    }

    private static void manyAndMoves() {
        Run r = new Run("12, 13 many, moves");
        SlipSheets x = r.x;
        r.land("mark p;sheet a cells 1 saves 0;sheet b cells 2 saves 0;mark q;moves b 1 q -1;moves a 0 p 2;", 6);
        r.is("many(0)", x.many(0), 3);
        r.is("many(1)", x.many(1), 2);
        r.none("many(-1)", x.many(-1), 1);
        r.none("many(2)", x.many(2), 1);
        r.is("moves(2, 1)", x.moves(2, 1), -1);
        r.is("moves(0, 0)", x.moves(0, 0), 2);
        r.is("moves(0, 1)", x.moves(0, 1), 0);
        r.none("moves(3, 0)", x.moves(3, 0), 1);
        r.none("moves(-1, 0)", x.moves(-1, 0), 1);
        r.none("moves(0, 2)", x.moves(0, 2), 1);
        r.none("moves(0, -1)", x.moves(0, -1), 1);
    }

    private static Run oneCell(String name) {
        Run r = new Run(name);
        r.land("sheet a cells 1 saves 100;mark b;mark c;moves a 0 b 1;", 4);
        return r;
    }

    private static void rowsAndDays() {
        Run r = oneCell("14, 17 row, value");
        SlipSheets x = r.x;
        r.no("mark", x.row(2, 0, 0, 0, 0), 1);
        r.no("mark", x.row(-1, 0, 0, 0, 0), 1);
        r.no("year", x.row(0, 20, 0, 0, 0), 1);
        r.no("year", x.row(0, -1, 0, 0, 0), 1);
        r.no("value", x.row(0, 0, 2001, 0, 0), 1);
        r.no("value", x.row(0, 0, -2001, 0, 0), 1);
        r.no("span", x.row(0, 0, 0, 201, 0), 1);
        r.no("span", x.row(0, 0, 0, -1, 0), 1);
        r.no("known", x.row(0, 0, 0, 0, 10000), 1);
        r.no("known", x.row(0, 0, 0, 0, -1), 1);
        r.none("value", x.value(0, 0, 0), 6);
        r.yes("row", x.row(0, 19, 2000, 200, 0));
        r.yes("row", x.row(1, 0, -2000, 0, 5));
        r.no("a DAY that is gone", x.row(0, 0, 0, 0, 4), 5);
        r.no("ahead of it a number", x.row(0, 0, 9999, 0, 4), 1);
        r.yes("the same DAY", x.row(0, 0, -1, 1, 5));
        r.yes("told later", x.row(0, 0, -1, 2, 5));
        r.is("value", x.value(0, 0, 0), -1);
        r.is("span", x.value(0, 0, 1), 2);
        r.is("value", x.value(0, 19, 0), 2000);
        r.is("span", x.value(0, 19, 1), 200);
        r.is("value", x.value(1, 0, 0), -2000);
        r.none("none such", x.value(1, 19, 0), 6);
        r.none("what", x.value(0, 0, 2), 1);
        r.none("what", x.value(0, 0, -1), 1);
        r.none("year", x.value(0, 20, 0), 1);
        r.none("year", x.value(0, -1, 0), 1);
        r.none("mark", x.value(2, 0, 0), 1);
        r.none("mark", x.value(-1, 0, 0), 1);
        r.yes("the last DAY", x.row(0, 0, 7, 0, 9999));
        r.is("value", x.value(0, 0, 0), 7);
    }

    private static void rowLimit() {
        Run r = oneCell("14 160 rows, 15 20 offsets, 31 30 shakes");
        SlipSheets x = r.x;
        for (int i = 0; i < 160; i++) {
            r.yes("row", x.row(i % 2, i % 20, i, 0, 9));
        }
        r.no("a 161st", x.row(0, 0, 5, 0, 9), 4);
        r.no("ahead of the DAY", x.row(0, 0, 5, 0, 8), 4);
        r.no("a number ahead of it", x.row(0, 0, 5000, 0, 9), 1);
        r.is("value", x.value(1, 19, 0), 159);
        for (int i = 0; i < 20; i++) {
            r.yes("offset", x.offset(1, 19, 2000));
        }
        r.no("a 21st", x.offset(1, 19, 1), 4);
        r.no("a number ahead of it", x.offset(1, 20, 1), 1);
        r.is("value", x.value(1, 19, 0), 159 - 40000);
        for (int i = 0; i < 30; i++) {
            r.yes("shake", x.shake(19, 0, 0));
        }
        r.no("a 31st", x.shake(0, 0, 1), 4);
        r.no("a number ahead of it", x.shake(0, 1, 1), 1);
        r.land("sheet a cells 1 saves 100;mark b;", 2);
        r.yes("row", x.row(0, 0, 5, 0, 9));
        r.yes("offset", x.offset(0, 0, 1));
        r.yes("shake", x.shake(0, 0, 1));
    }

    private static void offsets() {
        Run r = oneCell("15 offset");
        SlipSheets x = r.x;
        r.no("mark", x.offset(2, 0, 0), 1);
        r.no("mark", x.offset(-1, 0, 0), 1);
        r.no("year", x.offset(0, -1, 0), 1);
        r.no("year", x.offset(0, 20, 0), 1);
        r.no("much", x.offset(0, 0, 2001), 1);
        r.no("much", x.offset(0, 0, -2001), 1);
        r.yes("row", x.row(0, 4, 10, 0, 0));
        r.yes("row", x.row(0, 5, 10, 0, 0));
        r.yes("row", x.row(0, 6, 10, 0, 0));
        r.yes("row", x.row(1, 6, 10, 0, 0));
        r.yes("offset", x.offset(0, 5, 3));
        r.is("ahead", x.value(0, 4, 0), 10);
        r.is("from its YEAR", x.value(0, 5, 0), 7);
        r.is("on", x.value(0, 6, 0), 7);
        r.is("not of another", x.value(1, 6, 0), 10);
        r.yes("offset", x.offset(0, 6, -2000));
        r.is("all of them", x.value(0, 6, 0), 2007);
        r.is("the earlier", x.value(0, 5, 0), 7);
        r.yes("row told later", x.row(0, 6, 0, 0, 1));
        r.is("on it, too", x.value(0, 6, 0), 1997);
        r.yes("offset", x.offset(0, 0, 11));
        r.is("STATUS tells -1 from NONE", x.value(0, 4, 0), -1);
    }

    private static void asOf() {
        Run r = oneCell("16 asof");
        SlipSheets x = r.x;
        r.no("asof", x.asof(-1), 1);
        r.no("asof", x.asof(10000), 1);
        r.yes("row", x.row(0, 0, 1, 0, 3));
        r.yes("row", x.row(0, 0, 2, 0, 5));
        r.yes("row", x.row(0, 0, 3, 0, 5));
        r.yes("row", x.row(0, 0, 4, 0, 7));
        int[] want = {NONE, NONE, NONE, 1, 1, 3, 3, 4};
        for (int day = 0; day < want.length; day++) {
            r.yes("asof", x.asof(day));
            r.due("value as of " + day, x.value(0, 0, 0), want[day]);
            r.due("status()", x.status(), want[day] == NONE ? 6 : 0);
        }
        r.no("a refused one", x.asof(-5), 1);
        r.is("leaves it", x.value(0, 0, 0), 4);
        r.yes("asof", x.asof(0));
        r.no("AS OF moves no latest DAY", x.row(0, 0, 5, 0, 6), 5);
        r.yes("asof", x.asof(9999));
        r.is("value", x.value(0, 0, 0), 4);
    }

    private static void lines() {
        Run r = oneCell("18 line");
        SlipSheets x = r.x;
        r.rows(0, 0, 0, 10, 2, 6, 3, 7, 19, -2000);
        r.fraction("slope of two", x.line(0, 0, 2, 0), -2, 1);
        r.fraction("rest of two", x.line(0, 0, 2, 1), 0, 1);
        // 0, 2, 3 with 10, 6, 7: means 5/3 and 23/3; xx 14/3, xy -16/3, yy 26/3
        r.fraction("slope of three", x.line(0, 0, 3, 0), -8, 7);
        r.fraction("rest of three", x.line(0, 0, 3, 1), 18, 7);
        r.fraction("slope", x.line(0, 2, 3, 0), 1, 1);
        r.none("one VALUE", x.line(0, 0, 1, 0), 6);
        r.none("one YEAR", x.line(0, 2, 2, 1), 6);
        r.none("none", x.line(0, 4, 18, 0), 6);
        r.none("of another", x.line(1, 0, 19, 0), 6);
        r.due("top() stays", x.top(), 1);
        r.due("bottom() stays", x.bottom(), 1);
        r.none("back", x.line(0, 3, 2, 0), 1);
        r.none("year", x.line(0, -1, 2, 0), 1);
        r.none("year", x.line(0, 0, 20, 0), 1);
        r.none("mark", x.line(2, 0, 2, 0), 1);
        r.none("what", x.line(0, 0, 2, 2), 1);
        r.none("what", x.line(0, 0, 2, -1), 1);
        r.rows(1, 0, 0, 5, 1, 5, 2, 5);
        r.fraction("level", x.line(1, 0, 19, 0), 0, 1);
        r.fraction("level", x.line(1, 0, 19, 1), 0, 1);
        Run s = oneCell("18 the greatest line");
        for (int i = 0; i < 20; i++) {
            s.yes("row", s.x.row(0, i, i % 2 == 0 ? 2000 : -2000, 0, 0));
        }
        for (int i = 0; i < 20; i++) {
            s.yes("offset", s.x.offset(0, 10, i < 10 ? 2000 : -2000));
        }
        // xx 665, xy -20000, yy 80000000
        s.fraction("slope", s.x.line(0, 0, 19, 0), -4000, 133);
        s.fraction("rest", s.x.line(0, 0, 19, 1), 10560000000L, 133);
    }

    private static void breaks() {
        Run r = oneCell("19 breaks");
        SlipSheets x = r.x;
        r.rows(0, 0, 3, 0, 4, 0, 9, 50);
        r.none("three VALUES", x.breaks(0), 6);
        r.rows(0, 0, 10, 50);
        r.is("the first YEAR of several that part them so", x.breaks(0), 5);
        r.rows(1, 0, 0, 0, 1, 1, 2, 2, 3, 3, 4, 4);
        r.is("all alike: the first", x.breaks(1), 2);
        r.none("mark", x.breaks(2), 1);
        r.none("mark", x.breaks(-1), 1);
        Run s = oneCell("19 each rounded down");
        // at 2: rests 0 and 1/6 + .., each below 1: rounded down they are as good as none
        s.rows(0, 0, 0, 0, 1, 0, 2, 1, 3, 1, 4, 1);
        s.is("rounded down first", s.x.breaks(0), 2);
        s.rows(1, 0, 0, 0, 1, 9, 2, 0, 3, 100, 4, 109, 5, 118);
        s.is("the best", s.x.breaks(1), 3);
    }

    private static void slows() {
        Run r = oneCell("20 slow");
        SlipSheets x = r.x;
        r.none("no VALUES", x.slow(0, 2, 0, 0), 6);
        r.rows(0, 0, 1, 0);
        r.none("one VALUE", x.slow(0, 2, 0, 0), 6);
        // symmetric: the LINE is level at 0
        r.rows(0, 4, 1, 0, 3, 5, 4, 5, 6, -5, 7, -5, 8, 4, 9, -8, 10, 4, 11, -5, 12, -5, 14, 5, 15, 5, 17, 0);
        r.fraction("level", x.line(0, 0, 19, 0), 0, 1);
        int[][] want = {{3, 4, 1}, {6, 7, 0}, {11, 12, 0}, {14, 15, 1}};
        for (int k = 0; k < want.length; k++) {
            for (int what = 0; what < 3; what++) {
                r.is("slow(0, 2, " + k + ", " + what + ")", x.slow(0, 2, k, what), want[k][what]);
            }
        }
        r.none("a fifth", x.slow(0, 2, 4, 0), 6);
        r.none("far on", x.slow(0, 2, MOST_INT, 0), 6);
        r.none("of three", x.slow(0, 3, 0, 0), 6);
        r.none("mark", x.slow(2, 2, 0, 0), 1);
        r.none("much", x.slow(0, 1, 0, 0), 1);
        r.none("much", x.slow(0, 11, 0, 0), 1);
        r.none("k", x.slow(0, 2, -1, 0), 1);
        r.none("what", x.slow(0, 2, 0, 3), 1);
        r.none("what", x.slow(0, 2, 0, -1), 1);
        Run s = oneCell("20 up to the last YEAR");
        s.rows(0, 0, 0, 5, 1, 5, 9, -5, 10, -5, 18, 5, 19, 5);
        s.is("the last one's end", s.x.slow(0, 2, 2, 1), 19);
        s.is("its begin", s.x.slow(0, 2, 2, 0), 18);
        s.none("ten of them", s.x.slow(0, 10, 0, 0), 6);
        Run t = oneCell("20 so many and more");
        t.rows(0, 4, 0, 5, 1, 5, 2, 5, 3, -5, 4, -5, 5, -5, 6, -5, 7, -5, 8, -5, 9, 5, 10, 5, 11, 5);
        t.is("the third of three", t.x.slow(0, 3, 2, 0), 9);
        t.is("the first of four", t.x.slow(0, 4, 0, 0), 3);
        t.is("as many as there are", t.x.slow(0, 4, 0, 1), 8);
        t.is("of six", t.x.slow(0, 6, 0, 2), 0);
        t.none("of seven", t.x.slow(0, 7, 0, 0), 6);
        t.none("a second of six", t.x.slow(0, 6, 1, 0), 6);
        t.rows(0, 5, 4, -5);
        t.is("one just within its SPAN parts them", t.x.slow(0, 4, 0, 0), 5);
    }

    private static void slipsAndEnds() {
        Run r = new Run("22 to 24 slips, ends, first");
        SlipSheets x = r.x;
        r.land("sheet a cells 3 saves 0;mark p;mark q;moves a 0 p 1;moves a 1 p 2;moves a 2 q -3;", 6);
        r.is("no ROWS", x.slips(0, 19), 1000);
        r.rows(0, 1, 2, 10, 4, 15);
        r.is("a VALUE in one YEAR alone asks nothing", x.slips(2, 5), 1000);
        // p moved 3 to 7: (0, 2..3) (1, 1..3) (2, 1..2) (3, 0..2) (4, 0..1) (5, 0..1) (6, 0) (7, 0)
        r.is("slips", x.slips(2, 4), 16 * 10);
        r.is("least of 0", x.ends(2, 4, 1, 0), 0);
        r.is("most of 0", x.ends(2, 4, 1, 1), 7);
        r.is("most of 1", x.ends(2, 4, 2, 1), 3);
        r.is("least of both", x.ends(2, 4, 3, 0), 2);
        r.is("most of both", x.ends(2, 4, 3, 1), 7);
        r.is("least of 2", x.ends(2, 4, 4, 0), 0);
        r.is("most of all", x.ends(2, 4, 7, 1), 16);
        r.is("first 0", x.first(2, 4, 0), 0);
        r.is("first 1", x.first(2, 4, 1), 2);
        r.is("first 2", x.first(2, 4, 2), 0);
        r.rows(1, 0, 2, 0, 4, -20);
        r.is("none for -20 by -3", x.slips(2, 4), 0);
        r.none("ends", x.ends(2, 4, 1, 0), 6);
        r.none("first", x.first(2, 4, 0), 6);
        r.none("odds", x.odds(2, 4, 1, 0), 6);
        r.rows(1, 1, 4, -20);
        r.is("-21 to -19", x.slips(2, 4), 16);
        r.is("first 2", x.first(2, 4, 2), 7);
        r.none("the same YEAR", x.slips(2, 2), 1);
        r.none("back", x.slips(4, 2), 1);
        r.none("year", x.slips(-1, 2), 1);
        r.none("year", x.slips(0, 20), 1);
        r.none("year", x.ends(4, 2, 1, 0), 1);
        r.none("no set", x.ends(2, 4, 0, 0), 1);
        r.none("other bits", x.ends(2, 4, 8, 0), 1);
        r.none("below 0", x.ends(2, 4, LEAST_INT, 0), 1);
        r.none("what", x.ends(2, 4, 1, 2), 1);
        r.none("what", x.ends(2, 4, 1, -1), 1);
        r.none("cell", x.first(2, 4, 3), 1);
        r.none("cell", x.first(2, 4, -1), 1);
        r.none("years", x.first(4, 4, 0), 1);
        r.land("mark a;", 1);
        r.none("no CELLS", x.slips(0, 1), 6);
        r.none("years ahead of it", x.slips(1, 1), 1);
        r.none("no CELLS", x.ends(0, 1, 1, 0), 1);
        r.none("no CELLS", x.first(0, 1, 0), 1);
    }

    private static void smoothness() {
        Run r = new Run("21, 25 smooth, corner");
        SlipSheets x = r.x;
        r.no("smooth", x.smooth(-1), 1);
        r.no("smooth", x.smooth(10), 1);
        r.land("sheet a cells 3 saves 0;mark p;mark q;near a 0 a 2;moves a 0 p 1;moves a 2 q 1;", 6);
        int[] pairs = {10, 28, 44, 58, 70, 80, 88, 94, 98, 100};
        for (int much = 0; much <= 9; much++) {
            r.yes("smooth", x.smooth(much));
            r.is("slips by " + much, x.slips(0, 1), pairs[much] * 10L);
        }
        r.is("corner", x.corner(0, 1), 0);
        r.rows(0, 0, 0, 0, 1, 9);
        r.rows(1, 0, 0, 0, 1, 4);
        r.yes("smooth", x.smooth(2));
        r.is("slips", x.slips(0, 1), 0);
        r.is("corner by any SMOOTH", x.corner(0, 1), 5);
        r.yes("smooth", x.smooth(4));
        r.is("slips", x.slips(0, 1), 0);
        r.no("a refused one", x.smooth(11), 1);
        r.is("leaves it", x.slips(0, 1), 0);
        r.yes("smooth", x.smooth(5));
        r.is("slips", x.slips(0, 1), 10);
        r.rows(1, 0, 1, 10);
        r.none("none", x.corner(0, 1), 6);
        r.rows(1, 0, 1, 0);
        r.is("corner", x.corner(0, 1), 9);
        r.none("years", x.corner(1, 1), 1);
        r.none("years", x.corner(1, 20), 1);
        r.land("mark a;", 1);
        r.none("no CELLS", x.corner(0, 1), 6);
    }

    private static void slipsOfSixCells() {
        Run r = new Run("22 six cells");
        SlipSheets x = r.x;
        r.land("sheet a cells 6 saves 0;mark p;moves a 0 p 1;moves a 1 p 1;moves a 2 p 1;moves a 3 p 1;moves a 4 p 1;moves a 5 p 1;", 8);
        r.is("all", x.slips(0, 1), 1000000);
        r.fraction("odds", x.odds(0, 1, 63, 54), 1, 1000000);
        r.fraction("odds", x.odds(0, 1, 63, 53), 7, 1000000);
        r.is("most", x.ends(0, 1, 63, 1), 54);
        r.rows(0, 0, 0, 0, 1, 27);
        r.is("27 together", x.slips(0, 1), 55252);
        r.is("first", x.first(0, 1, 2), 0);
        r.is("first", x.first(0, 1, 3), 9);
        r.rows(0, 200, 0, 0, 1, 0);
        r.is("a wide SPAN", x.slips(0, 1), 1000000);
    }

    private static void quarrels() {
        Run r = new Run("26, 27 quarrel, without");
        SlipSheets x = r.x;
        r.land("sheet a cells 2 saves 0;mark p;mark q;mark s;mark t;moves a 0 p 1;moves a 0 q 1;moves a 1 s 1;moves a 0 t 1;near a 0 a 1;", 10);
        r.none("nothing asked", x.quarrel(0, 1, 0), 6);
        r.rows(0, 0, 0, 0, 1, 3);
        r.rows(1, 0, 0, 0, 1, 4);
        r.rows(2, 0, 0, 0, 1, 4);
        r.is("fewest", x.quarrel(0, 1, 0), 2);
        r.is("set", x.quarrel(0, 1, 1), 3);
        r.is("rivals", x.quarrel(0, 1, 2), 1);
        r.is("without 0", x.without(0, 1, 0), 1);
        r.is("without 1", x.without(0, 1, 1), 1);
        r.is("without 2", x.without(0, 1, 2), 0);
        r.is("without one that asks nothing", x.without(0, 1, 3), 0);
        r.yes("smooth", x.smooth(0));
        r.is("fewest", x.quarrel(0, 1, 0), 2);
        r.is("set", x.quarrel(0, 1, 1), 3);
        r.is("rivals: 0 with 1, 0 with 2", x.quarrel(0, 1, 2), 2);
        r.rows(3, 0, 0, 0, 1, 5);
        r.is("rivals: 01, 02, 03, 13, 23", x.quarrel(0, 1, 2), 5);
        r.is("without 0", x.without(0, 1, 0), 0);
        r.rows(3, 0, 1, 10);
        r.is("fewest", x.quarrel(0, 1, 0), 1);
        r.is("set", x.quarrel(0, 1, 1), 8);
        r.is("rivals", x.quarrel(0, 1, 2), 1);
        r.rows(1, 0, 1, -1);
        r.is("set", x.quarrel(0, 1, 1), 2);
        r.is("rivals", x.quarrel(0, 1, 2), 2);
        r.none("other YEARS", x.quarrel(1, 2, 0), 6);
        r.none("what", x.quarrel(0, 1, 3), 1);
        r.none("what", x.quarrel(0, 1, -1), 1);
        r.none("years", x.quarrel(1, 1, 0), 1);
        r.none("mark", x.without(0, 1, 4), 1);
        r.none("mark", x.without(0, 1, -1), 1);
        r.none("years", x.without(1, 0, 0), 1);
        r.land("mark a;", 1);
        r.none("no CELLS", x.without(0, 1, 0), 6);
        r.none("no CELLS", x.quarrel(0, 1, 0), 6);
        eightQuarrel();
        Run s = new Run("26 three that quarrel only together");
        s.land("sheet a cells 2 saves 0;mark p;mark q;mark s;moves a 0 p 1;moves a 1 q 1;moves a 0 s 1;moves a 1 s 1;", 8);
        s.rows(0, 0, 0, 0, 1, 3);
        s.rows(1, 0, 0, 0, 1, 3);
        s.rows(2, 0, 0, 0, 1, 7);
        s.is("fewest", s.x.quarrel(0, 1, 0), 3);
        s.is("set", s.x.quarrel(0, 1, 1), 7);
        s.is("rivals", s.x.quarrel(0, 1, 2), 1);
    }

    /** Each MARK shuts out one corner of a cube alone; all that is not of the cube is shut out by some. */
    private static void eightQuarrel() {
        Run r = new Run("26 eight that quarrel only together");
        int[][] units = {{1, 1, 1}, {1, -1, -1}, {-1, 1, -1}, {1, 1, -1}, {-1, -1, 1}, {1, -1, 1}, {-1, 1, 1}, {-1, -1, -1}};
        int[] most = {2, 0, 0, 1, 0, 1, 1, -1};
        StringBuilder text = new StringBuilder("sheet a cells 3 saves 0;");
        for (int mark = 0; mark < 8; mark++) {
            text.append("mark ").append((char) ('k' + mark)).append(';');
        }
        for (int mark = 0; mark < 8; mark++) {
            for (int cell = 0; cell < 3; cell++) {
                text.append("moves a " + cell + " " + (char) ('k' + mark) + " " + units[mark][cell] + ";");
            }
        }
        r.land(text.toString(), 33);
        for (int mark = 0; mark < 8; mark++) {
            r.rows(mark, 200, 0, 0, 1, most[mark] - 400);
        }
        r.is("fewest", r.x.quarrel(0, 1, 0), 8);
        r.is("set", r.x.quarrel(0, 1, 1), 255);
        r.is("rivals", r.x.quarrel(0, 1, 2), 1);
        for (int mark = 0; mark < 8; mark++) {
            r.is("without " + mark, r.x.without(0, 1, mark), 1);
        }
        r.is("slips", r.x.slips(0, 1), 0);
    }

    private static void ranks() {
        Run r = new Run("28, 29 rank, apart");
        SlipSheets x = r.x;
        r.land("sheet a cells 4 saves 0;mark p;mark q;mark s;mark t;moves a 0 p 1;moves a 1 p 2;moves a 0 q 2;moves a 1 q 4;"
            + "moves a 1 s 3;moves a 2 s -1;", 11);
        r.is("empty", x.rank(0, 0), 0);
        r.is("empty", x.rank(0, 1), 4);
        r.is("one", x.rank(1, 0), 1);
        r.is("two in line", x.rank(3, 0), 1);
        r.is("hidden", x.rank(3, 1), 3);
        r.is("all", x.rank(15, 0), 2);
        r.is("one that nothing moves", x.rank(8, 0), 0);
        r.none("other bits", x.rank(16, 0), 1);
        r.none("below 0", x.rank(-1, 0), 1);
        r.none("what", x.rank(1, 2), 1);
        r.none("what", x.rank(1, -1), 1);
        r.is("apart 0 by p", x.apart(0, 1), 0);
        r.is("apart 2 by all", x.apart(2, 15), 0);
        r.is("apart 3 by all", x.apart(3, 15), 0);
        r.none("cell", x.apart(4, 1), 1);
        r.none("cell", x.apart(-1, 1), 1);
        r.none("other bits", x.apart(0, 16), 1);
        r.none("below 0", x.apart(0, LEAST_INT), 1);
        r.land("sheet a cells 3 saves 0;mark p;mark q;moves a 0 p 1;moves a 1 q 1;moves a 2 q 1;", 6);
        r.is("apart 0", x.apart(0, 3), 1);
        r.is("apart 1", x.apart(1, 3), 0);
        r.is("apart 0 without p", x.apart(0, 2), 0);
        r.land("mark p;mark q;", 2);
        r.is("no CELLS", x.rank(3, 0), 0);
        r.is("no CELLS", x.rank(3, 1), 0);
        r.land("sheet a cells 6 saves 0;mark b;mark c;mark d;mark e;mark f;mark g;mark h;mark i;"
            + "moves a 0 b 9;moves a 1 b -9;moves a 2 b 9;moves a 3 b 7;moves a 4 b 9;moves a 5 b 9;"
            + "moves a 0 c 9;moves a 1 c 9;moves a 2 c -9;moves a 3 c 9;moves a 4 c 8;moves a 5 c -9;"
            + "moves a 0 d -9;moves a 1 d 9;moves a 2 d 9;moves a 3 d 9;moves a 4 d -9;moves a 5 d 8;"
            + "moves a 0 e 9;moves a 3 e -9;moves a 4 e 9;moves a 1 f 7;moves a 2 f -9;moves a 5 g 9;moves a 0 g 9;moves a 2 h 1;moves a 3 i -1;", 36);
        r.is("six of eight", x.rank(255, 0), 6);
        r.is("none hidden", x.rank(255, 1), 0);
        r.is("three", x.rank(7, 0), 3);
    }

    private static void odds() {
        Run r = new Run("30 odds");
        SlipSheets x = r.x;
        r.land("sheet a cells 2 saves 0;mark p;moves a 0 p 1;moves a 1 p -1;near a 0 a 1;", 5);
        r.fraction("all", x.odds(0, 1, 3, 0), 1, 1);
        r.fraction("18", x.odds(0, 1, 3, 18), 1, 100);
        r.fraction("19", x.odds(0, 1, 3, 19), 0, 1);
        r.fraction("one of them", x.odds(0, 1, 2, 5), 1, 2);
        r.rows(0, 0, 0, 0, 1, 6);
        r.fraction("6 apart: 60, 71, 82, 93", x.odds(0, 1, 3, 9), 1, 2);
        r.fraction("of 1", x.odds(0, 1, 2, 3), 1, 4);
        r.fraction("54", x.odds(0, 1, 1, 54), 0, 1);
        r.yes("smooth", x.smooth(5));
        r.none("no SLIPS", x.odds(0, 1, 3, 0), 6);
        r.due("bottom() stays", x.bottom(), 1);
        r.none("least", x.odds(0, 1, 3, -1), 1);
        r.none("least", x.odds(0, 1, 3, 55), 1);
        r.none("empty", x.odds(0, 1, 0, 0), 1);
        r.none("other bits", x.odds(0, 1, 4, 0), 1);
        r.none("years", x.odds(1, 1, 1, 0), 1);
    }

    private static void shakesAndSaved() {
        Run r = new Run("31, 32 shake, saved");
        SlipSheets x = r.x;
        r.land("sheet a cells 2 saves 999;sheet b cells 1 saves 0;sheet c cells 1 saves 150;stuck a 1 from 33 to 67;stuck c 0 from 0 to 50;", 5);
        r.fraction("a year", x.saved(0, 0, 0), 999, 100);
        r.fraction("wholly stuck", x.saved(0, 0, 1), 999, 100);
        r.fraction("20 years", x.saved(0, 19, 0), 999, 5);
        r.fraction("at least", x.saved(1, 0, 0), 32967, 10000);
        r.fraction("at most", x.saved(1, 0, 1), 66933, 10000);
        r.fraction("none", x.saved(2, 19, 1), 0, 1);
        r.fraction("at least", x.saved(3, 19, 0), 0, 1);
        r.fraction("at most", x.saved(3, 3, 1), 3, 1);
        r.yes("shake", x.shake(1, 3, 1));
        r.yes("shake", x.shake(1, 3, 1));
        r.yes("shake", x.shake(0, 3, 0));
        r.yes("shake", x.shake(2, 0, 99));
        r.fraction("ahead of it", x.saved(3, 0, 1), 3, 4);
        r.fraction("not more than there is", x.saved(3, 1, 1), 0, 1);
        r.fraction("on from there", x.saved(3, 2, 1), 3, 4);
        r.fraction("of another", x.saved(0, 2, 0), 0, 1);
        r.fraction("what is left", x.saved(0, 1, 0), 999, 50);
        r.yes("shake told late", x.shake(0, 0, 5));
        r.fraction("counts in its YEAR", x.saved(0, 0, 0), 499, 100);
        r.no("year", x.shake(-1, 0, 0), 1);
        r.no("year", x.shake(20, 0, 0), 1);
        r.no("cell", x.shake(0, 4, 0), 1);
        r.no("cell", x.shake(0, -1, 0), 1);
        r.no("units", x.shake(0, 0, -1), 1);
        r.no("units", x.shake(0, 0, 100), 1);
        r.none("cell", x.saved(4, 0, 0), 1);
        r.none("cell", x.saved(-1, 0, 0), 1);
        r.none("year", x.saved(0, 20, 0), 1);
        r.none("year", x.saved(0, -1, 0), 1);
        r.none("what", x.saved(0, 0, 2), 1);
        r.none("what", x.saved(0, 0, -1), 1);
        r.due("top() stays", x.top(), 499);
    }

    private static void nets() {
        Run r = new Run("33, 34 net, netTold");
        SlipSheets x = r.x;
        r.land("sheet a cells 3 saves 0;mark p;mark q;mark s;mark t;moves a 0 p 1;moves a 0 q 1;moves a 1 s 1;moves a 2 t 1;moves a 1 t 1;", 10);
        r.none("netTold", x.netTold(0), 6);
        r.none("what", x.netTold(2), 1);
        r.none("what", x.netTold(-1), 1);
        r.none("missing", x.net(0, 0), 2);
        r.none("tray", x.net(4, 0), 1);
        r.none("purse ahead of missing", x.net(0, 10001), 1);
        r.none("purse", x.net(0, -1), 1);
        r.write(0, 1, 5, 5, 1);
        r.none("fewer than MARKS", x.net(0, 0), 3);
        r.write(0, 1, 5, 5, 1, 1001, -7);
        r.none("a cost", x.net(0, 0), 1);
        r.write(0, 1, 5, 5, -1, 1, -7);
        r.none("a cost", x.net(0, 0), 1);
        r.none("still none", x.netTold(1), 6);
        r.write(0, 1, 5, 5, 1, 3, -7);
        r.is("no purse", x.net(0, 0), 0);
        r.is("the set", x.netTold(0), 0);
        r.is("its cost", x.netTold(1), 0);
        r.is("purse 3", x.net(0, 3), 1);
        r.is("the cheapest", x.netTold(0), 4);
        r.is("purse 4", x.net(0, 4), 2);
        r.is("the set", x.netTold(0), 12);
        r.is("purse 9", x.net(0, 9), 3);
        r.is("of equals the least set", x.netTold(0), 13);
        r.is("its cost", x.netTold(1), 9);
        r.write(1, 2, 6, 5, 1000, 999);
        r.is("a greater set that costs less", x.net(1, 6), 1);
        r.is("the set", x.netTold(0), 2);
        r.is("its cost", x.netTold(1), 5);
        r.is("RANK goes ahead of cost", x.net(1, 1500), 2);
        r.is("the set", x.netTold(0), 10);
        r.is("its cost", x.netTold(1), 1004);
        r.rows(1, 0, 7, 7);
        r.is("q has a VALUE", x.net(0, 10000), 3);
        r.is("the set", x.netTold(0), 12);
        r.is("its cost", x.netTold(1), 4);
        r.none("refused", x.net(2, 3), 2);
        r.is("the one ahead is told", x.netTold(0), 12);
        r.write(0, 1, 0, 0, 0, 0);
        r.is("for nothing", x.net(0, 0), 3);
        r.is("what adds nothing is not set", x.netTold(0), 12);
        r.yes("row", x.row(0, 0, 0, 0, 50));
        r.yes("asof", x.asof(0));
        r.is("as of", x.net(0, 0), 3);
        r.is("q counts", x.netTold(0), 12);
        r.write(0, 1, 2000, 0, 0, 0);
        r.none("a cost of one that has VALUES counts, too", x.net(0, 0), 1);
    }

    private static void fews() {
        Run r = new Run("35, 36 few, fewOf");
        SlipSheets x = r.x;
        r.none("fewOf", x.fewOf(0), 6);
        r.none("fewOf", x.fewOf(-1), 1);
        r.none("missing", x.few(0, 1, 0, 0), 2);
        r.none("tray", x.few(4, 1, 0, 0), 1);
        r.none("tray", x.few(-1, 1, 0, 0), 1);
        r.none("many", x.few(0, 0, 0, 0), 1);
        r.none("many", x.few(0, 9, 0, 0), 1);
        r.none("least", x.few(0, 1, -1, 0), 1);
        r.none("most", x.few(0, 1, 0, 2001), 1);
        r.none("most below least", x.few(0, 1, 3, 2), 1);
        r.write(0, 3, 1, 5, 6, 100, 0);
        r.none("too few", x.few(0, 6, 0, 0), 3);
        r.none("a number", x.few(0, 4, 0, 0), 1);
        r.none("a number", x.few(0, 5, 0, 0), 1);
        r.none("fewOf still", x.fewOf(0), 6);
        r.is("10 by 5 and 5", x.few(0, 3, 10, 10), 2);
        r.is("0", x.fewOf(0), 0);
        r.is("1", x.fewOf(1), 2);
        r.is("2", x.fewOf(2), 0);
        r.none("3", x.fewOf(3), 6);
        r.none("far on", x.fewOf(MOST_INT), 6);
        r.none("below 0", x.fewOf(LEAST_INT), 1);
        r.is("the fewest, then the least", x.few(0, 3, 7, 12), 2);
        r.is("7 is 1 and 6", x.fewOf(0), 1);
        r.is("7 is 1 and 6", x.fewOf(2), 1);
        r.write(1, 0, 2, 3, 4, 3);
        r.is("6", x.few(1, 4, 6, 6), 2);
        r.is("the first as seldom as can be", x.fewOf(0), 0);
        r.is("the second, too", x.fewOf(1), 0);
        r.is("then the third", x.fewOf(2), 0);
        r.is("two of the last", x.fewOf(3), 2);
        r.is("2 and 4 where 3 is not asked", x.few(1, 1, 6, 7), 3);
        r.is("fewOf", x.fewOf(0), 3);
        r.none("of one class", x.fewOf(1), 6);
        r.none("it can't be", x.few(1, 1, 7, 7), 6);
        r.is("the one ahead is told", x.fewOf(0), 3);
        r.is("none at all", x.few(1, 4, 0, 2000), 0);
        r.is("none", x.fewOf(3), 0);
        r.write(2, 0, 99, 1);
        r.is("2000", x.few(2, 2, 2000, 2000), 40);
        r.is("99", x.fewOf(0), 20);
        r.is("1", x.fewOf(1), 20);
        r.write(2, 0, 50);
        r.is("the most itself", x.few(2, 1, 1999, 2000), 40);
        r.none("not beyond the most", x.few(2, 1, 1951, 1999), 6);
        r.write(2, 0, 7, 7, 7, 7, 7, 7, 7, 7);
        r.is("eight alike", x.few(2, 8, 1, 2000), 1);
        r.is("the last one", x.fewOf(7), 1);
        r.none("the ninth", x.fewOf(8), 6);
    }
}
