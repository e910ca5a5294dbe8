/** The calls of the face by their names, so that tests can go through them; false and true are 0 and 1. */
final class Face {
    /** All calls that have a STATUS. */
    static final String[] CALLS = {"tray", "write", "read", "pour", "land", "many", "moves", "row", "offset", "asof", "value", "line",
        "breaks", "slow", "smooth", "slips", "ends", "first", "corner", "quarrel", "without", "rank", "apart", "odds", "shake", "saved",
        "net", "netTold", "few", "fewOf"};

    private Face() {
    }

    /** Whether the call answers true or false: false stands where others give NONE. */
    static boolean isYesOrNo(String name) {
        switch (name) {
            case "tray": case "write": case "pour": case "row": case "offset": case "asof": case "smooth": case "shake": return true;
            default: return false;
        }
    }

    static String told(String name, long... a) {
        StringBuilder call = new StringBuilder(name + "(");
        for (int i = 0; i < a.length; i++) {
            call.append(i == 0 ? "" : ", ").append(a[i]);
        }
        return call.append(")").toString();
    }

    static long call(SlipSheets x, String name, long... a) {
        int[] i = new int[6];
        for (int k = 0; k < a.length; k++) {
            i[k] = (int) a[k];
        }
        switch (name) {
            case "status": return x.status();
            case "top": return x.top();
            case "bottom": return x.bottom();
            case "tray": return x.tray(i[0], i[1], i[2]) ? 1 : 0;
            case "write": return x.write(i[0], i[1], a[2]) ? 1 : 0;
            case "read": return x.read(i[0], i[1]);
            case "pour": return x.pour(i[0], i[1], i[2], i[3], i[4]) ? 1 : 0;
            case "feed": return x.feed(i[0], i[1], i[2], i[3], i[4]);
            case "land": return x.land(i[0]);
            case "fault": return x.fault(i[0]);
            case "many": return x.many(i[0]);
            case "moves": return x.moves(i[0], i[1]);
            case "row": return x.row(i[0], i[1], i[2], i[3], i[4]) ? 1 : 0;
            case "offset": return x.offset(i[0], i[1], i[2]) ? 1 : 0;
            case "asof": return x.asof(i[0]) ? 1 : 0;
            case "value": return x.value(i[0], i[1], i[2]);
            case "line": return x.line(i[0], i[1], i[2], i[3]);
            case "breaks": return x.breaks(i[0]);
            case "slow": return x.slow(i[0], i[1], i[2], i[3]);
            case "smooth": return x.smooth(i[0]) ? 1 : 0;
            case "slips": return x.slips(i[0], i[1]);
            case "ends": return x.ends(i[0], i[1], i[2], i[3]);
            case "first": return x.first(i[0], i[1], i[2]);
            case "corner": return x.corner(i[0], i[1]);
            case "quarrel": return x.quarrel(i[0], i[1], i[2]);
            case "without": return x.without(i[0], i[1], i[2]);
            case "rank": return x.rank(i[0], i[1]);
            case "apart": return x.apart(i[0], i[1]);
            case "odds": return x.odds(i[0], i[1], i[2], i[3]);
            case "shake": return x.shake(i[0], i[1], i[2]) ? 1 : 0;
            case "saved": return x.saved(i[0], i[1], i[2]);
            case "net": return x.net(i[0], i[1]);
            case "netTold": return x.netTold(i[0]);
            case "few": return x.few(i[0], i[1], i[2], i[3]);
            case "fewOf": return x.fewOf(i[0]);
            default: throw new IllegalArgumentException(name);
        }
    }
}
