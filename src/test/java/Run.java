import java.nio.charset.StandardCharsets;

/** One run of calls on a new object: it counts and prints each answer that is not the one that is due. */
final class Run {
    private static int wrong = 0;
    private static boolean hushed = false;

    final SlipSheets x = new SlipSheets();
    private final String name;

    Run(String name) {
        this.name = name;
    }

    /** Another run of the same name, on an object of its own. */
    Run again() {
        return new Run(name);
    }

    static int wrongAnswers() {
        return wrong;
    }

    /** Wrong answers are counted alone: where they are looked for, they needn't be printed. */
    static void hush() {
        hushed = true;
    }

    static void end(String test) {
        System.out.println(test + ": " + (wrong == 0 ? "all answers are as due" : wrong + " answers are not as due"));
        if (wrong != 0) {
            System.exit(1);
        }
    }

    void due(String call, long got, long want) {
        if (got != want) {
            wrong++;
            if (hushed) {
                return;
            }
            System.out.println(name + ": " + call + " answered " + got + ", due is " + want);
        }
    }

    /** The call was answered so, with STATUS 0. */
    void is(String call, long got, long want) {
        due(call, got, want);
        due("status() behind " + call, x.status(), 0);
    }

    void yes(String call, boolean got) {
        is(call, got ? 1 : 0, 1);
    }

    /** The call gave NONE, with this STATUS. */
    void none(String call, long got, int status) {
        due(call, got, SlipSheets.NONE);
        due("status() behind " + call, x.status(), status);
    }

    void no(String call, boolean got, int status) {
        due(call, got ? 1 : 0, 0);
        due("status() behind " + call, x.status(), status);
    }

    /** The call told this FRACTION. */
    void fraction(String call, long got, long top, long bottom) {
        is(call, got, Long.signum(top));
        due("top() behind " + call, x.top(), top);
        due("bottom() behind " + call, x.bottom(), bottom);
    }

    /** Feeds a text, filled up with 0s to a whole feed. */
    int feed(String text) {
        byte[] bytes = text.getBytes(StandardCharsets.ISO_8859_1);
        int size = 0;
        for (int i = 0; i < bytes.length; i += 20) {
            size = x.feed(four(bytes, i), four(bytes, i + 4), four(bytes, i + 8), four(bytes, i + 12), four(bytes, i + 16));
        }
        return size;
    }

    static int four(byte[] bytes, int at) {
        int packed = 0;
        for (int i = at; i < at + 4; i++) {
            packed = packed << 8 | (i < bytes.length ? bytes[i] & 255 : 0);
        }
        return packed;
    }

    /** The text is taken as the LAND, of so many PARTS. */
    void land(String text, int parts) {
        feed(text);
        is("land of '" + text + "'", x.land(text.length()), parts);
        due("fault(0) of '" + text + "'", x.fault(0), 0);
        due("fault(1) of '" + text + "'", x.fault(1), SlipSheets.NONE);
    }

    /** The text has this FAULT at this place. */
    void faulty(String text, int fault, int place) {
        feed(text);
        none("land of '" + text + "'", x.land(text.length()), 9);
        due("fault(0) of '" + text + "'", x.fault(0), fault);
        due("fault(1) of '" + text + "'", x.fault(1), place);
    }

    /** The same, the place told by where '!' stands in the text (it is taken out). */
    void faultyAt(String text, int fault) {
        int place = text.indexOf('!');
        faulty(text.substring(0, place) + text.substring(place + 1), fault, place);
    }

    void write(int tray, int sort, long... numbers) {
        yes("tray", x.tray(tray, sort, numbers.length));
        for (int i = 0; i < numbers.length; i++) {
            yes("write", x.write(tray, i, numbers[i]));
        }
    }

    /** The whole TRAY: these numbers and none behind them. */
    void reads(int tray, long... numbers) {
        for (int i = 0; i < numbers.length; i++) {
            is("read(" + tray + ", " + i + ")", x.read(tray, i), numbers[i]);
        }
        none("read(" + tray + ", " + numbers.length + ")", x.read(tray, numbers.length), 3);
    }

    /** ROWS of a MARK with one SPAN, all KNOWN on DAY 0. */
    void rows(int mark, int span, int... yearsAndValues) {
        for (int i = 0; i + 1 < yearsAndValues.length; i += 2) {
            yes("row", x.row(mark, yearsAndValues[i], yearsAndValues[i + 1], span, 0));
        }
    }

    /** A call by its name, answered with this STATUS; where it is not 0, with NONE or false. */
    long call(int status, String name, long... a) {
        long got = Face.call(x, name, a);
        due("status() behind " + Face.told(name, a), x.status(), status);
        if (status != 0) {
            due(Face.told(name, a), got, Face.isYesOrNo(name) ? 0 : SlipSheets.NONE);
        }
        return got;
    }
}
