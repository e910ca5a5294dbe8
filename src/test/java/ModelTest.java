import java.nio.charset.StandardCharsets;
import java.util.ArrayList;
import java.util.HashSet;
import java.util.List;
import java.util.Map;
import java.util.Random;
import java.util.Set;
import java.util.TreeMap;

/** Runs of calls by a fixed seed: each answer, STATUS and FRACTION is held against PlainModel's. */
public final class ModelTest {
    private static final String[] CALLS = {"tray", "write", "read", "pour", "feed", "land", "fault", "many", "moves", "row",
        "offset", "asof", "value", "line", "breaks", "slow", "smooth", "slips", "ends", "first", "corner", "quarrel", "without",
        "rank", "apart", "odds", "shake", "saved", "net", "netTold", "few", "fewOf"};
    private static final String[] PIECES = {"sheet", "cells", "saves", "mark", "near", "moves", "stuck", "from", "to", ";", "+", "-",
        "*", "(", ")", " ", "\n", "a", "b", "k", "0", "1", "2", "5", "10", "100", "101", "999", "1000", "12345", "?", "abcdefghi", "9"};
    private static final int[] EDGES = {Integer.MIN_VALUE, -2001, -1, 0, 1, 9, 10, 19, 20, 54, 55, 60, 61, 200, 201, 2000, 2001, 9999,
        10000, Integer.MAX_VALUE};

    private final Random random;
    private final int cellsMost;
    private SlipSheets x = new SlipSheets();
    private PlainModel model = new PlainModel();
    private final List<String> told = new ArrayList<>();
    private static int wrong = 0;
    private static int calls = 0;
    private static final int[] statuses = new int[10];
    private static final int[] faults = new int[7];
    private static final Map<String, Integer> answered = new TreeMap<>();

    private ModelTest(int seed, int cellsMost) {
        // seeds that lie close together begin alike
        this.random = new Random(seed * 0x9E3779B97F4A7C15L);
        this.cellsMost = cellsMost;
    }

    public static void main(String[] args) {
        int many = args.length > 0 ? Integer.parseInt(args[0]) : 400;
        int from = args.length > 1 ? Integer.parseInt(args[1]) : 0;
        for (int seed = from; seed < from + many && wrong == 0; seed++) {
            new ModelTest(seed, seed % 50 == 49 ? 5 : 3).run();
        }
        for (int seed = from; seed < from + many / 4 && wrong == 0; seed++) {
            new ModelTest(seed, 2).run();
        }
        for (int seed = from; seed < from + many * 5 && wrong == 0; seed++) {
            new ModelTest(seed, 6).runTexts();
        }
        for (int seed = from; seed < from + many * 2 && wrong == 0; seed++) {
            new ModelTest(seed, 3).runFews();
            new ModelTest(seed, 6).runNets();
        }
        for (int status : new int[] {0, 1, 2, 3, 4, 5, 6, 8, 9}) {
            check("STATUS " + status + " came up", statuses[status] > 0);
        }
        for (int fault = 0; fault < 7; fault++) {
            check("FAULT " + fault + " came up", faults[fault] > 0);
        }
        for (String name : CALLS) {
            check(name + " was answered often", answered.getOrDefault(name, 0) >= many);
        }
        if (args.length > 2) {
            System.out.println(answered);
        }
        System.out.println("ModelTest: " + calls + " calls, " + (wrong == 0 ? "all answers are as due" : wrong + " are not as due"));
        if (wrong != 0) {
            System.exit(1);
        }
    }

    private static void check(String what, boolean holds) {
        if (!holds) {
            wrong++;
            System.out.println("not so: " + what);
        }
    }

    private int below(int n) {
        return random.nextInt(Math.max(n, 1));
    }

    private int between(int least, int most) {
        return least + below(most - least + 1);
    }

    // ---- runs

    private void run() {
        // a call that a run likes fills up what has a limit
        String liked = CALLS[below(CALLS.length)];
        int landsEvery = between(60, 600);
        for (int i = 0; i < 20 && model.cells() * model.marks() == 0; i++) {
            feedText(landText());
        }
        for (int i = 0; i < 450 && wrong == 0; i++) {
            if (below(landsEvery) == 0) {
                feedText(below(4) == 0 ? spoilt(landText()) : landText());
            } else {
                String name = CALLS[below(CALLS.length)];
                if (below(4) == 0) {
                    name = below(3) == 0 ? liked : "row";
                }
                long[] arguments = arguments(name);
                if (below(12) == 0 && !name.equals("land")) {
                    // a late DAY would end the ROWS of a run
                    int spared = name.equals("row") && below(5) > 0 ? 1 : 0;
                    arguments[below(arguments.length - spared)] = EDGES[below(EDGES.length)];
                }
                both(name, arguments);
            }
        }
    }

    private void runTexts() {
        for (int i = 0; i < 10 && wrong == 0; i++) {
            String text = landText();
            for (int times = below(3); times > 0; times--) {
                text = spoilt(text);
            }
            feedText(text);
            both("many", 0);
            both("many", 1);
            for (int cell = 0; cell < model.cells(); cell++) {
                both("saved", cell, 19, 0);
                both("saved", cell, 19, 1);
                for (int mark = 0; mark < model.marks(); mark++) {
                    both("moves", cell, mark);
                }
            }
        }
    }

    private void runNets() {
        feedText(landText());
        both("tray", 0, between(1, 3), 8);
        for (int i = 0; i < 10; i++) {
            both("write", 0, below(8), below(20));
            both("net", 0, below(40));
            both("netTold", 0);
            both("netTold", 1);
            if (below(3) == 0) {
                both("row", mark(), year(), 0, 0, 0);
            }
        }
    }

    private void runFews() {
        int many = between(1, 8);
        both("tray", 0, between(1, 3), many);
        int most = between(1, 99);
        for (int i = 0; i < many; i++) {
            both("write", 0, i, between(1, most));
        }
        for (int i = 0; i < 5; i++) {
            int least = below(between(1, 1990));
            both("few", 0, between(1, many), least, least + below(10));
            for (int k = 0; k <= many; k++) {
                both("fewOf", k);
            }
        }
    }

    // ---- arguments that mostly can be

    /** In a wide run all YEARS and great numbers come up, in others few YEARS, so that MARKS have MOVED. */
    private boolean isWide() {
        return cellsMost == 2;
    }

    private int year() {
        return isWide() || below(20) == 0 ? below(20) : below(7);
    }

    private int known = 0;

    private int mark() {
        return below(model.marks());
    }

    private int cell() {
        return below(model.cells());
    }

    private int setOfCells() {
        return between(1, (1 << model.cells()) - 1);
    }

    private int setOfMarks() {
        return below(1 << model.marks());
    }

    private long[] arguments(String name) {
        int from = year();
        int to = from + between(1, 3);
        switch (name) {
            case "tray": return longs(below(4), below(4), below(12));
            case "write": return new long[] {below(4), below(12), below(3) == 0 ? random.nextLong() : between(0, 20)};
            case "read": return longs(below(4), below(12));
            case "pour": return longs(below(4), below(6), below(4), below(6), below(6));
            case "feed": return longs(random.nextInt(), random.nextInt(), random.nextInt(), random.nextInt(), random.nextInt());
            case "land": return longs(between(700, 800));
            case "fault": return longs(between(-1, 2));
            case "many": return longs(below(2));
            case "moves": return longs(cell(), mark());
            case "row": return rowArguments();
            case "offset": return longs(mark(), year(), isWide() ? between(-2000, 2000) : between(-20, 20));
            case "asof": return longs(below(2) == 0 ? 9999 : below(known + 5));
            case "value": return longs(mark(), year(), below(2));
            case "line": return longs(mark(), from, from + below(12), below(2));
            case "breaks": return longs(mark());
            case "slow": return longs(mark(), between(2, 4), below(3), below(3));
            case "smooth": return longs(below(10));
            case "slips": case "corner": return longs(from, to);
            case "ends": return longs(from, to, setOfCells(), below(2));
            case "first": return longs(from, to, cell());
            case "quarrel": return longs(from, to, below(3));
            case "without": return longs(from, to, mark());
            case "rank": return longs(setOfMarks(), below(2));
            case "apart": return longs(cell(), setOfMarks());
            case "odds": return longs(from, to, setOfCells(), below(20));
            case "shake": return longs(below(20), cell(), between(0, 12));
            case "saved": return longs(cell(), below(20), below(2));
            case "net": return longs(below(4), below(30));
            case "few": return longs(below(4), between(1, 6), below(60), 60 + below(60));
            default: return longs(below(3));
        }
    }

    private long[] rowArguments() {
        known = Math.min(9999, known + (below(6) == 0 ? 1 : 0));
        int wide = isWide() ? 2000 : below(3) == 0 ? 40 : 12;
        return longs(mark(), year(), between(-wide, wide), below(isWide() ? 201 : 5), below(15) == 0 ? known - 1 : known);
    }

    private static long[] longs(int... numbers) {
        long[] longs = new long[numbers.length];
        for (int i = 0; i < numbers.length; i++) {
            longs[i] = numbers[i];
        }
        return longs;
    }

    // ---- texts

    /** A text that mostly is taken: what was told already is told again only now and then. */
    private String landText() {
        StringBuilder text = new StringBuilder();
        List<String> cells = new ArrayList<>();
        List<String> marks = new ArrayList<>();
        Set<String> before = new HashSet<>();
        int parts = between(6, 30);
        for (int i = 0; i < parts && text.length() < 540; i++) {
            int kind = i == 0 ? 0 : i < 4 ? below(2) : below(12);
            String name = name(below(60) == 0 ? below(3) : i);
            String one = cells.isEmpty() ? "x 0" : cells.get(below(cells.size()));
            String other = cells.isEmpty() ? "x 0" : cells.get(below(cells.size()));
            String mark = marks.isEmpty() ? "x" : marks.get(below(marks.size()));
            String part;
            if (kind == 0 && cells.size() < cellsMost) {
                int more = between(1, cellsMost - cells.size());
                part = "sheet " + name + " cells " + more + " saves " + below(below(2) == 0 ? 1000 : 200);
                for (int cell = 0; cell < more; cell++) {
                    cells.add(name + " " + cell);
                }
            } else if (kind == 1 && marks.size() < 8) {
                part = "mark " + name;
                marks.add(name);
            } else if (kind == 2) {
                boolean again = one.equals(other) || before.contains(one + other) || !before.add(other + one);
                part = again && below(40) > 0 ? "" : "near " + one + blank() + other;
                before.add(one + other);
            } else if (kind == 3) {
                int least = below(101);
                part = !before.add(one) && below(40) > 0 ? "" : "stuck " + one + "from" + least + "to" + between(least, 100);
            } else {
                boolean again = marks.isEmpty() || !before.add(one + " by " + mark);
                part = again && below(40) > 0 ? "" : "moves " + one + blank() + mark + " " + (below(6) == 0 ? sum(0) : between(-4, 4));
            }
            text.append(part.isEmpty() ? "" : part + blank() + ";" + blank());
        }
        return text.substring(0, Math.min(600, text.length()));
    }

    /** NAMES of all lengths, many of them alike but for one letter. */
    private static String name(int i) {
        String[] heads = {"", "a", "ab", "mar", "qqqqqqq"};
        return heads[i % heads.length] + (char) ('a' + i % 26);
    }

    private String blank() {
        return new String[] {"", "", "", " ", "\n", "  "}[below(6)];
    }

    private String sum(int deep) {
        int kind = below(deep > 9 ? 1 : 7);
        switch (kind) {
            case 0: return String.valueOf(below(below(8) == 0 ? 9999 : 5));
            case 1: return "-" + blank() + sum(deep + 1);
            case 2: return "(" + sum(deep + 1) + ")" + blank();
            case 3: return sum(deep + 2) + "*" + sum(deep + 2);
            case 4: return sum(deep + 2) + "+" + sum(deep + 2);
            case 5: return sum(deep + 2) + "-" + sum(deep + 2);
            default: return String.valueOf(below(4));
        }
    }

    private String spoilt(String text) {
        int at = below(text.length() + 1);
        int end = Math.min(text.length(), at + below(3));
        String piece = below(12) == 0 ? String.valueOf((char) below(256)) : PIECES[below(PIECES.length)];
        String spoilt;
        switch (below(4)) {
            case 0: spoilt = text.substring(0, at) + piece + text.substring(end); break;
            case 1: spoilt = text.substring(0, at) + text.substring(end); break;
            case 2: spoilt = text.substring(0, at); break;
            default: spoilt = text.substring(0, at) + " " + piece + " " + text.substring(at); break;
        }
        return spoilt.substring(0, Math.min(600, spoilt.length()));
    }

    private void feedText(String text) {
        // what random feeds have left is no LAND: it goes, and the LAND stays
        both("land", model.tapeSize() > 0 ? model.tapeSize() : 601);
        byte[] bytes = text.getBytes(StandardCharsets.ISO_8859_1);
        for (int i = 0; i < bytes.length; i += 20) {
            both("feed", Run.four(bytes, i), Run.four(bytes, i + 4), Run.four(bytes, i + 8), Run.four(bytes, i + 12), Run.four(bytes, i + 16));
        }
        both("land", bytes.length);
        faults[Math.max(0, x.fault(0))]++;
        both("fault", 0);
        both("fault", 1);
    }

    // ---- both

    private void both(String name, long... a) {
        told.add(Face.told(name, a));
        long want = model.call(name, a);
        long got = Face.call(x, name, a);
        calls++;
        answered.merge(name, x.status() == 0 ? 1 : 0, Integer::sum);
        statuses[x.status()]++;
        if (got != want || x.status() != model.call("status") || x.top() != model.call("top") || x.bottom() != model.call("bottom")) {
            wrong++;
            for (String line : told) {
                System.out.println(line);
            }
            System.out.println("answered " + got + ", due is " + want + "; STATUS " + x.status() + ", due is " + model.call("status")
                + "; FRACTION " + x.top() + " by " + x.bottom() + ", due is " + model.call("top") + " by " + model.call("bottom"));
        }
    }
}
