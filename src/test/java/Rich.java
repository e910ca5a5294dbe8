import java.util.ArrayList;
import java.util.List;

/** An object of which everything is told that can be, and all that can be asked of one. */
final class Rich {
    static final String LAND = "sheet a cells 2 saves 100;sheet b cells 1 saves 50;mark p;mark q;mark s;near a 0 b 0;moves a 0 p 1;moves a 1 q 2;"
        + "moves b 0 s -1;stuck a 1 from 20 to 60;";
    static final int LATEST_DAY = 3;

    private Rich() {
    }

    /** TRAYS 0 to 2 (3 is MISSING), a LAND, ROWS of two of its MARKS, OFFSETS, SHAKES (as many as can be, or one fewer of each), 20 bytes on the tape. */
    static Run make(Run r, boolean isFull) {
        int fewer = isFull ? 0 : 1;
        r.write(0, 2, 30, 20, 10, 40, 7, 7, 7, 7);
        r.write(1, 2, 5, 6, 7);
        r.write(2, 0, 1, 2);
        r.land(LAND, 10);
        for (int i = 0; i < 160 - fewer; i++) {
            r.call(0, "row", i % 2, i / 2 % 19, i / 2 % 19 / 4, 1, i / 40);
        }
        for (int i = 0; i < 20 - fewer; i++) {
            r.call(0, "offset", 0, 5 + i % 2, i % 2 == 0 ? 1 : -1);
        }
        for (int i = 0; i < 30 - fewer; i++) {
            r.call(0, "shake", i % 20, i % 3, i % 2);
        }
        r.call(0, "asof", 2);
        r.call(0, "smooth", 4);
        r.call(0, "net", 0, 100);
        r.call(0, "few", 0, 3, 45, 55);
        r.call(0, "saved", 0, 19, 0);
        r.feed("?");
        return r;
    }

    /** What all calls answer, with their STATUS: first those that change nothing, then some that do. */
    static List<String> answers(SlipSheets x) {
        List<String> told = new ArrayList<>();
        // up to here status() tells of the call ahead
        told.add("FRACTION " + x.top() + " by " + x.bottom() + ", FAULT " + x.fault(0) + " at " + x.fault(1));
        ask(told, x, "many", 0);
        for (int i = 0; i < 3; i++) {
            for (int k = 0; k < 4; k++) {
                ask(told, x, "read", i, k);
            }
            ask(told, x, "many", i);
            ask(told, x, "moves", i, i);
            ask(told, x, "value", i, 0, 0);
            ask(told, x, "value", i, 15, 0);
            ask(told, x, "value", i, 15, 1);
            ask(told, x, "breaks", i);
            ask(told, x, "slow", i, 2, 0, 0);
            ask(told, x, "line", i, 0, 19, 1);
            ask(told, x, "first", 0, 15, i);
            ask(told, x, "without", 0, 15, i);
            ask(told, x, "apart", i, 7);
            ask(told, x, "saved", i, 19, 0);
            ask(told, x, "saved", i, 19, 1);
            ask(told, x, "fewOf", i);
            ask(told, x, "netTold", i);
        }
        ask(told, x, "read", 3, 0);
        ask(told, x, "slips", 0, 15);
        ask(told, x, "ends", 0, 15, 7, 1);
        ask(told, x, "corner", 0, 15);
        ask(told, x, "quarrel", 0, 15, 0);
        ask(told, x, "rank", 7, 0);
        ask(told, x, "odds", 0, 15, 7, 9);
        changing(told, x);
        return told;
    }

    private static void changing(List<String> told, SlipSheets x) {
        ask(told, x, "feed", 0, 0, 0, 0, 0);
        ask(told, x, "row", 0, 0, 9, 9, LATEST_DAY - 1);
        ask(told, x, "row", 0, 0, 9, 9, LATEST_DAY);
        ask(told, x, "row", 0, 0, 9, 9, LATEST_DAY);
        ask(told, x, "offset", 0, 0, 1);
        ask(told, x, "offset", 0, 0, 1);
        ask(told, x, "shake", 0, 0, 1);
        ask(told, x, "shake", 0, 0, 1);
        ask(told, x, "saved", 0, 0, 0);
        ask(told, x, "asof", LATEST_DAY);
        ask(told, x, "value", 0, 0, 0);
        ask(told, x, "land", 20);
        ask(told, x, "fault", 1);
    }

    /** What a next LAND, "mark p;", is told: of an object that takes no more ROWS it alone shows the latest DAY. */
    static List<String> answersOfNextLand(SlipSheets x) {
        List<String> told = new ArrayList<>();
        ask(told, x, "land", 20);
        ask(told, x, "feed", 0x6d61726b, 0x20703b20, 0, 0, 0);
        ask(told, x, "land", 7);
        ask(told, x, "row", 0, 0, 9, 9, LATEST_DAY - 1);
        ask(told, x, "row", 0, 0, 9, 9, LATEST_DAY);
        ask(told, x, "value", 0, 0, 0);
        ask(told, x, "asof", LATEST_DAY);
        ask(told, x, "value", 0, 0, 0);
        return told;
    }

    private static void ask(List<String> told, SlipSheets x, String name, long... a) {
        long got = Face.call(x, name, a);
        told.add(Face.told(name, a) + ": " + got + ", STATUS " + x.status() + ", FRACTION " + x.top() + " by " + x.bottom());
    }

    /** An object that was asked what it refuses answers as one that was not. */
    static void same(Run r, List<String> untouched, List<String> asked, String call) {
        r.due("how many answers behind the refused " + call, asked.size(), untouched.size());
        for (int i = 0; i < Math.min(asked.size(), untouched.size()); i++) {
            r.due(asked.get(i) + " behind the refused " + call + ", due is " + untouched.get(i), asked.get(i).equals(untouched.get(i)) ? 1 : 0, 1);
        }
    }
}
