import java.math.BigInteger;
import java.util.ArrayList;
import java.util.Arrays;
import java.util.HashMap;
import java.util.LinkedHashMap;
import java.util.List;
import java.util.Map;
import java.util.Set;
import java.util.TreeMap;
import java.util.regex.Matcher;
import java.util.regex.Pattern;

/** The document once more, the slow and plain way: ModelTest holds the class against it. */
final class PlainModel {
    static final int NONE = -1;

    /** A call that is refused. */
    private static final class Refused extends RuntimeException {
        final int status;

        Refused(int status) {
            super(null, null, false, false);
            this.status = status;
        }
    }

    private static final class Fault extends RuntimeException {
        final int kind;
        final int place;

        Fault(int kind, int place) {
            super(null, null, false, false);
            this.kind = kind;
            this.place = place;
        }
    }

    private record Row(int mark, int year, int value, int span, int known) {
    }

    private record Offset(int mark, int year, int much) {
    }

    private record Shake(int year, int cell, int units) {
    }

    private record Told(int value, int span) {
    }

    private static final class Cell {
        int saves;
        int least = 100;
        int most = 100;
        boolean stuckTold;
    }

    private static final class Land {
        final Map<String, List<Integer>> sheets = new LinkedHashMap<>();
        final List<String> marks = new ArrayList<>();
        final List<Cell> cells = new ArrayList<>();
        final Set<List<Integer>> near = new java.util.HashSet<>();
        final Map<List<Integer>, Integer> moves = new HashMap<>();
        int parts;

        int unit(int cell, int mark) {
            return moves.getOrDefault(List.of(cell, mark), 0);
        }
    }

    int status = 0;
    BigInteger top = BigInteger.ZERO;
    BigInteger bottom = BigInteger.ONE;
    private final long[][] trays = new long[4][];
    private final int[] sorts = new int[4];
    private final List<Integer> tape = new ArrayList<>();
    private Land land = new Land();
    private int faultKind = NONE;
    private int faultPlace = NONE;
    private final List<Row> rows = new ArrayList<>();
    private final List<Offset> offsets = new ArrayList<>();
    private final List<Shake> shakes = new ArrayList<>();
    private int latest = 0;
    private int asOf = 9999;
    private int smooth = 9;
    private int[] netTold = null;
    private int[] fewTold = null;

    long call(String name, long... a) {
        int[] i = new int[a.length];
        for (int k = 0; k < a.length; k++) {
            i[k] = (int) a[k];
        }
        switch (name) {
            case "status": return status;
            case "top": return top.longValueExact();
            case "bottom": return bottom.longValueExact();
            case "feed": return feed(i);
            case "fault": return i[0] == 0 ? faultKind : i[0] == 1 ? faultPlace : NONE;
            default: break;
        }
        try {
            long answer = answer(name, i, a);
            status = 0;
            return answer;
        } catch (Refused refused) {
            status = refused.status;
            switch (name) {
                case "tray": case "write": case "pour": case "row": case "offset": case "asof": case "smooth": case "shake":
                    return 0;
                default:
                    return NONE;
            }
        }
    }

    private long answer(String name, int[] i, long[] a) {
        switch (name) {
            case "tray": return tray(i[0], i[1], i[2]);
            case "write": return write(i[0], i[1], a[2]);
            case "read": place(i[0], i[1]); return trays[i[0]][i[1]];
            case "pour": return pour(i[0], i[1], i[2], i[3], i[4]);
            case "land": return land(i[0]);
            case "many": want(i[0] == 0 || i[0] == 1, 1); return i[0] == 0 ? cells() : marks();
            case "moves": cell(i[0]); mark(i[1]); return land.unit(i[0], i[1]);
            case "row": return row(i[0], i[1], i[2], i[3], i[4]);
            case "offset": return offset(i[0], i[1], i[2]);
            case "asof": within(i[0], 0, 9999); asOf = i[0]; return 1;
            case "value": return value(i[0], i[1], i[2]);
            case "line": return line(i[0], i[1], i[2], i[3]);
            case "breaks": return breaks(i[0]);
            case "slow": return slow(i[0], i[1], i[2], i[3]);
            case "smooth": within(i[0], 0, 9); smooth = i[0]; return 1;
            case "slips": years(i[0], i[1]); want(cells() > 0, 6); return all(i[0], i[1], 255, smooth).size();
            case "ends": return ends(i[0], i[1], i[2], i[3]);
            case "first": return first(i[0], i[1], i[2]);
            case "corner": return corner(i[0], i[1]);
            case "quarrel": return quarrel(i[0], i[1], i[2]);
            case "without": return without(i[0], i[1], i[2]);
            case "rank": return rank(i[0], i[1]);
            case "apart": return apart(i[0], i[1]);
            case "odds": return odds(i[0], i[1], i[2], i[3]);
            case "shake": return shake(i[0], i[1], i[2]);
            case "saved": return saved(i[0], i[1], i[2]);
            case "net": return net(i[0], i[1]);
            case "netTold": within(i[0], 0, 1); want(netTold != null, 6); return netTold[i[0]];
            case "few": return few(i[0], i[1], i[2], i[3]);
            case "fewOf": want(i[0] >= 0, 1); want(fewTold != null && i[0] < fewTold.length, 6); return fewTold[i[0]];
            default: throw new IllegalArgumentException(name);
        }
    }

    private static void want(boolean holds, int otherwise) {
        if (!holds) {
            throw new Refused(otherwise);
        }
    }

    private static void within(long number, long least, long most) {
        want(number >= least && number <= most, 1);
    }

    int tapeSize() {
        return tape.size();
    }

    int cells() {
        return land.cells.size();
    }

    int marks() {
        return land.marks.size();
    }

    private void cell(int cell) {
        want(cell >= 0 && cell < cells(), 1);
    }

    private void mark(int mark) {
        want(mark >= 0 && mark < marks(), 1);
    }

    private static void years(int from, int to) {
        within(from, 0, 19);
        within(to, 0, 19);
        want(from < to, 1);
    }

    private long tell(BigInteger above, BigInteger below) {
        BigInteger common = above.gcd(below);
        top = above.divide(common);
        bottom = below.divide(common);
        return top.signum();
    }

    // ---- TRAYS

    private long tray(int tray, int sort, int many) {
        within(tray, 0, 3);
        within(sort, 0, 3);
        within(many, 0, 60);
        trays[tray] = new long[many];
        sorts[tray] = sort;
        return 1;
    }

    private void place(int tray, int place) {
        within(tray, 0, 3);
        want(trays[tray] != null, 2);
        want(place >= 0 && place < trays[tray].length, 3);
    }

    private long write(int tray, int place, long v) {
        place(tray, place);
        int shift = 64 - (8 << sorts[tray]);
        trays[tray][place] = v << shift >> shift;
        return 1;
    }

    private long pour(int from, int place, int to, int at, int many) {
        within(from, 0, 3);
        within(to, 0, 3);
        want(place >= 0 && at >= 0 && many >= 0, 1);
        want(trays[from] != null && trays[to] != null, 2);
        want(sorts[from] == sorts[to], 8);
        want((long) place + many <= trays[from].length && (long) at + many <= trays[to].length, 3);
        long[] kept = Arrays.copyOfRange(trays[from], place, place + many);
        for (int k = 0; k < many; k++) {
            trays[to][at + k] = kept[k];
        }
        return 1;
    }

    // ---- the LAND

    private long feed(int[] five) {
        if (tape.size() + 20 > 600) {
            return NONE;
        }
        for (int word : five) {
            for (int k = 3; k >= 0; k--) {
                tape.add(word >>> 8 * k & 255);
            }
        }
        return tape.size();
    }

    private long land(int n) {
        want(n >= 0 && n <= tape.size(), 1);
        StringBuilder text = new StringBuilder();
        for (int k = 0; k < n; k++) {
            text.append((char) (int) tape.get(k));
        }
        tape.clear();
        try {
            Land read = new Parse(text.toString()).land();
            land = read;
            faultKind = 0;
            faultPlace = NONE;
            rows.clear();
            offsets.clear();
            shakes.clear();
            return read.parts;
        } catch (Fault fault) {
            faultKind = fault.kind;
            faultPlace = fault.place;
            throw new Refused(9);
        }
    }

    private static final class Parse {
        private static final Pattern TOKEN = Pattern.compile("[\\n ]*(?:([a-z]+)|([0-9]+)|([;+\\-*()])|(\\z)|([\\s\\S]))");
        private static final Set<String> KEPT = Set.of("sheet", "cells", "saves", "mark", "near", "moves", "stuck", "from", "to");

        private final Matcher matcher;
        private final Land land = new Land();
        private String word;
        private int number;
        private String sign;
        private boolean end;
        private int at;

        Parse(String text) {
            matcher = TOKEN.matcher(text);
            next();
        }

        private void next() {
            matcher.lookingAt();
            word = matcher.group(1);
            String digits = matcher.group(2);
            sign = matcher.group(3);
            end = matcher.group(4) != null;
            number = NONE;
            for (int g = 1; g <= 5; g++) {
                if (matcher.group(g) != null) {
                    at = matcher.start(g);
                }
            }
            if (matcher.group(5) != null || (digits != null && digits.length() > 4)) {
                throw new Fault(1, at);
            }
            if (digits != null) {
                number = Integer.parseInt(digits);
            }
            matcher.region(matcher.end(), matcher.regionEnd());
        }

        private void must(boolean holds, int kind) {
            if (!holds) {
                throw new Fault(kind, at);
            }
        }

        private void pass(String wanted) {
            must(wanted.equals(word) || wanted.equals(sign), 2);
            next();
        }

        private String name() {
            must(word != null && word.length() <= 8 && !KEPT.contains(word), 2);
            return word;
        }

        private int number(int least, int most) {
            must(number != NONE, 2);
            must(number >= least && number <= most, 4);
            return number;
        }

        private String newName() {
            String name = name();
            must(!land.sheets.containsKey(name) && !land.marks.contains(name), 3);
            return name;
        }

        private int cell() {
            String name = name();
            must(land.sheets.containsKey(name), 3);
            List<Integer> cells = land.sheets.get(name);
            next();
            return cells.get(number(0, cells.size() - 1));
        }

        Land land() {
            while (!end) {
                part();
                land.parts++;
            }
            return land;
        }

        private void part() {
            int begin = at;
            must(word != null, 2);
            switch (word) {
                case "sheet": next(); sheet(); break;
                case "mark": next(); mark(); break;
                case "near": next(); near(begin); break;
                case "moves": next(); moves(begin); break;
                case "stuck": next(); stuck(begin); break;
                default: throw new Fault(2, at);
            }
            next();
        }

        private void atEnd() {
            must(";".equals(sign), 2);
        }

        private void sheet() {
            String name = newName();
            next();
            pass("cells");
            int many = number(1, 6);
            must(land.cells.size() + many <= 6, 6);
            next();
            pass("saves");
            int saves = number(0, 999);
            next();
            atEnd();
            List<Integer> cells = new ArrayList<>();
            for (int k = 0; k < many; k++) {
                Cell cell = new Cell();
                cell.saves = saves;
                cells.add(land.cells.size());
                land.cells.add(cell);
            }
            land.sheets.put(name, cells);
        }

        private void mark() {
            String name = newName();
            must(land.marks.size() < 8, 6);
            next();
            atEnd();
            land.marks.add(name);
        }

        private void near(int begin) {
            int one = cell();
            next();
            int other = cell();
            must(one != other, 4);
            next();
            atEnd();
            if (!land.near.add(List.of(Math.min(one, other), Math.max(one, other)))) {
                throw new Fault(6, begin);
            }
        }

        private void moves(int begin) {
            int cell = cell();
            next();
            String name = name();
            must(land.marks.contains(name), 3);
            next();
            int sumAt = at;
            BigInteger sum = sum(0);
            atEnd();
            if (land.moves.containsKey(List.of(cell, land.marks.indexOf(name)))) {
                throw new Fault(6, begin);
            }
            long cut = sum.longValue();
            if (cut < -9 || cut > 9) {
                throw new Fault(5, sumAt);
            }
            land.moves.put(List.of(cell, land.marks.indexOf(name)), (int) cut);
        }

        private void stuck(int begin) {
            Cell cell = land.cells.get(cell());
            next();
            pass("from");
            int least = number(0, 100);
            next();
            pass("to");
            int most = number(least, 100);
            next();
            atEnd();
            if (cell.stuckTold) {
                throw new Fault(6, begin);
            }
            cell.stuckTold = true;
            cell.least = least;
            cell.most = most;
        }

        private BigInteger sum(int around) {
            BigInteger sum = item(around);
            while ("+".equals(sign) || "-".equals(sign)) {
                boolean plus = "+".equals(sign);
                next();
                BigInteger item = item(around);
                sum = plus ? sum.add(item) : sum.subtract(item);
            }
            return sum;
        }

        private BigInteger item(int around) {
            BigInteger item = atom(around);
            while ("*".equals(sign)) {
                next();
                item = item.multiply(atom(around));
            }
            return item;
        }

        private BigInteger atom(int around) {
            if (number != NONE) {
                BigInteger atom = BigInteger.valueOf(number);
                next();
                return atom;
            }
            must("-".equals(sign) || "(".equals(sign), 2);
            must(around < 6, 5);
            if ("-".equals(sign)) {
                next();
                return atom(around + 1).negate();
            }
            next();
            BigInteger sum = sum(around + 1);
            pass(")");
            return sum;
        }
    }

    // ---- ROWS and LINES

    private long row(int mark, int year, int value, int span, int known) {
        mark(mark);
        within(year, 0, 19);
        within(value, -2000, 2000);
        within(span, 0, 200);
        within(known, 0, 9999);
        want(rows.size() < 160, 4);
        want(known >= latest, 5);
        rows.add(new Row(mark, year, value, span, known));
        latest = known;
        return 1;
    }

    private long offset(int mark, int year, int much) {
        mark(mark);
        within(year, 0, 19);
        within(much, -2000, 2000);
        want(offsets.size() < 20, 4);
        offsets.add(new Offset(mark, year, much));
        return 1;
    }

    private Told told(int mark, int year) {
        for (int k = rows.size() - 1; k >= 0; k--) {
            Row row = rows.get(k);
            if (row.mark == mark && row.year == year && row.known <= asOf) {
                int value = row.value;
                for (Offset offset : offsets) {
                    if (offset.mark == mark && offset.year <= year) {
                        value -= offset.much;
                    }
                }
                return new Told(value, row.span);
            }
        }
        return null;
    }

    private TreeMap<Integer, Told> values(int mark, int from, int to) {
        TreeMap<Integer, Told> values = new TreeMap<>();
        for (int year = from; year <= to; year++) {
            Told told = told(mark, year);
            if (told != null) {
                values.put(year, told);
            }
        }
        return values;
    }

    private long value(int mark, int year, int what) {
        mark(mark);
        within(year, 0, 19);
        within(what, 0, 1);
        Told told = told(mark, year);
        want(told != null, 6);
        return what == 0 ? told.value : told.span;
    }

    /** A fraction of any size. */
    private record Part(BigInteger above, BigInteger below) {
        static Part of(long number) {
            return new Part(BigInteger.valueOf(number), BigInteger.ONE);
        }

        Part plus(Part o) {
            return new Part(above.multiply(o.below).add(o.above.multiply(below)), below.multiply(o.below)).small();
        }

        Part minus(Part o) {
            return plus(new Part(o.above.negate(), o.below));
        }

        Part times(Part o) {
            return new Part(above.multiply(o.above), below.multiply(o.below)).small();
        }

        Part by(Part o) {
            return times(o.above.signum() < 0 ? new Part(o.below.negate(), o.above.negate()) : new Part(o.below, o.above));
        }

        Part small() {
            BigInteger common = above.gcd(below);
            return new Part(above.divide(common), below.divide(common));
        }

        int sign() {
            return above.signum();
        }
    }

    /** SLOPE and where the LINE is in YEAR 0. */
    private static Part[] fitted(TreeMap<Integer, Told> values) {
        Part n = Part.of(values.size());
        Part meanX = Part.of(0);
        Part meanY = Part.of(0);
        for (Map.Entry<Integer, Told> e : values.entrySet()) {
            meanX = meanX.plus(Part.of(e.getKey()).by(n));
            meanY = meanY.plus(Part.of(e.getValue().value).by(n));
        }
        Part xx = Part.of(0);
        Part xy = Part.of(0);
        for (Map.Entry<Integer, Told> e : values.entrySet()) {
            Part dx = Part.of(e.getKey()).minus(meanX);
            xx = xx.plus(dx.times(dx));
            xy = xy.plus(dx.times(Part.of(e.getValue().value).minus(meanY)));
        }
        Part slope = xy.by(xx);
        return new Part[] {slope, meanY.minus(slope.times(meanX))};
    }

    private static Part above(Part[] line, int year, Told told) {
        return Part.of(told.value).minus(line[1]).minus(line[0].times(Part.of(year)));
    }

    private static Part rest(TreeMap<Integer, Told> values) {
        Part[] line = fitted(values);
        Part rest = Part.of(0);
        for (Map.Entry<Integer, Told> e : values.entrySet()) {
            Part above = above(line, e.getKey(), e.getValue());
            rest = rest.plus(above.times(above));
        }
        return rest;
    }

    private long line(int mark, int from, int to, int what) {
        mark(mark);
        within(from, 0, 19);
        within(to, from, 19);
        within(what, 0, 1);
        TreeMap<Integer, Told> values = values(mark, from, to);
        want(values.size() >= 2, 6);
        Part told = what == 0 ? fitted(values)[0] : rest(values);
        return tell(told.above, told.below);
    }

    private long breaks(int mark) {
        mark(mark);
        int best = NONE;
        BigInteger least = null;
        for (int year = 0; year < 20; year++) {
            TreeMap<Integer, Told> ahead = values(mark, 0, year - 1);
            TreeMap<Integer, Told> behind = values(mark, year, 19);
            if (ahead.size() >= 2 && behind.size() >= 2) {
                Part one = rest(ahead);
                Part other = rest(behind);
                BigInteger sum = one.above.divide(one.below).add(other.above.divide(other.below));
                if (least == null || sum.compareTo(least) < 0) {
                    least = sum;
                    best = year;
                }
            }
        }
        want(best >= 0, 6);
        return best;
    }

    private long slow(int mark, int much, int k, int what) {
        mark(mark);
        within(much, 2, 10);
        want(k >= 0, 1);
        within(what, 0, 2);
        TreeMap<Integer, Told> values = values(mark, 0, 19);
        want(values.size() >= 2, 6);
        Part[] line = fitted(values);
        StringBuilder sides = new StringBuilder();
        List<Integer> years = new ArrayList<>();
        for (Map.Entry<Integer, Told> e : values.entrySet()) {
            Part above = above(line, e.getKey(), e.getValue());
            Part span = Part.of(e.getValue().span);
            sides.append(above.minus(span).sign() > 0 ? 'a' : above.plus(span).sign() < 0 ? 'b' : '.');
            years.add(e.getKey());
        }
        Matcher runs = Pattern.compile("a{" + much + ",}|b{" + much + ",}").matcher(sides);
        for (int found = 0; runs.find(); found++) {
            if (found == k) {
                return what == 0 ? years.get(runs.start()) : what == 1 ? years.get(runs.end() - 1)
                    : sides.charAt(runs.start()) == 'a' ? 1 : 0;
            }
        }
        throw new Refused(6);
    }

    // ---- SLIPS

    private boolean moved(int mark, int from, int to) {
        return told(mark, from) != null && told(mark, to) != null;
    }

    private List<int[]> all(int from, int to, int asked, int much) {
        List<int[]> bounds = new ArrayList<>();
        for (int mark = 0; mark < marks(); mark++) {
            if ((asked >> mark & 1) != 0 && moved(mark, from, to)) {
                int difference = told(mark, to).value - told(mark, from).value;
                int span = told(mark, to).span + told(mark, from).span;
                bounds.add(new int[] {mark, difference - span, difference + span});
            }
        }
        int[][] units = new int[marks()][cells()];
        for (int mark = 0; mark < marks(); mark++) {
            for (int cell = 0; cell < cells(); cell++) {
                units[mark][cell] = land.unit(cell, mark);
            }
        }
        List<int[]> all = new ArrayList<>();
        int ways = (int) Math.pow(10, cells());
        for (int way = 0; way < ways; way++) {
            int[] slips = new int[cells()];
            for (int cell = cells() - 1, left = way; cell >= 0; cell--, left /= 10) {
                slips[cell] = left % 10;
            }
            if (fits(slips, bounds, units, much)) {
                all.add(slips);
            }
        }
        return all;
    }

    private boolean fits(int[] slips, List<int[]> bounds, int[][] units, int much) {
        for (int[] bound : bounds) {
            int sum = 0;
            for (int cell = 0; cell < slips.length; cell++) {
                sum += slips[cell] * units[bound[0]][cell];
            }
            if (sum < bound[1] || sum > bound[2]) {
                return false;
            }
        }
        for (List<Integer> pair : land.near) {
            if (Math.abs(slips[pair.get(0)] - slips[pair.get(1)]) > much) {
                return false;
            }
        }
        return true;
    }

    private void cellSet(int set) {
        within(set, 1, (1 << cells()) - 1);
    }

    private void markSet(int set) {
        within(set, 0, (1 << marks()) - 1);
    }

    private static int together(int[] slips, int set) {
        int sum = 0;
        for (int cell = 0; cell < slips.length; cell++) {
            sum += (set >> cell & 1) * slips[cell];
        }
        return sum;
    }

    private long ends(int from, int to, int set, int what) {
        years(from, to);
        cellSet(set);
        within(what, 0, 1);
        List<int[]> all = all(from, to, 255, smooth);
        want(!all.isEmpty(), 6);
        int least = 99;
        int most = -99;
        for (int[] slips : all) {
            least = Math.min(least, together(slips, set));
            most = Math.max(most, together(slips, set));
        }
        return what == 0 ? least : most;
    }

    private long first(int from, int to, int cell) {
        years(from, to);
        cell(cell);
        List<int[]> all = all(from, to, 255, smooth);
        want(!all.isEmpty(), 6);
        return all.get(0)[cell];
    }

    private long corner(int from, int to) {
        years(from, to);
        want(cells() > 0, 6);
        for (int much = 0; much < 10; much++) {
            if (!all(from, to, 255, much).isEmpty()) {
                return much;
            }
        }
        throw new Refused(6);
    }

    private long quarrel(int from, int to, int what) {
        years(from, to);
        within(what, 0, 2);
        want(cells() > 0, 6);
        int fewest = 99;
        int first = NONE;
        int rivals = 0;
        for (int set = 0; set < 1 << marks(); set++) {
            boolean asked = true;
            for (int mark = 0; mark < marks(); mark++) {
                asked &= (set >> mark & 1) == 0 || moved(mark, from, to);
            }
            int size = Integer.bitCount(set);
            if (asked && size <= fewest && all(from, to, set, smooth).isEmpty()) {
                if (size < fewest) {
                    fewest = size;
                    first = set;
                    rivals = 0;
                }
                rivals++;
            }
        }
        want(rivals > 0, 6);
        return what == 0 ? fewest : what == 1 ? first : rivals;
    }

    private long without(int from, int to, int mark) {
        years(from, to);
        mark(mark);
        want(cells() > 0, 6);
        return all(from, to, 255 & ~(1 << mark), smooth).isEmpty() ? 0 : 1;
    }

    /** By a prime that is greater than any minor can be. */
    private int rankOf(int marks, int left) {
        long prime = 2147483647L;
        List<long[]> kept = new ArrayList<>();
        for (int mark = 0; mark < marks(); mark++) {
            if ((marks >> mark & 1) == 0) {
                continue;
            }
            long[] v = new long[cells()];
            for (int cell = 0; cell < v.length; cell++) {
                v[cell] = cell == left ? 0 : Math.floorMod(land.unit(cell, mark), prime);
            }
            for (long[] basis : kept) {
                int lead = lead(basis);
                long times = v[lead];
                for (int cell = 0; cell < v.length; cell++) {
                    v[cell] = Math.floorMod(v[cell] - times * basis[cell] % prime, prime);
                }
            }
            int lead = lead(v);
            if (lead < v.length) {
                long inverse = BigInteger.valueOf(v[lead]).modInverse(BigInteger.valueOf(prime)).longValue();
                for (int cell = 0; cell < v.length; cell++) {
                    v[cell] = v[cell] * inverse % prime;
                }
                kept.add(v);
            }
        }
        return kept.size();
    }

    private static int lead(long[] v) {
        int lead = 0;
        while (lead < v.length && v[lead] == 0) {
            lead++;
        }
        return lead;
    }

    private long rank(int marks, int what) {
        markSet(marks);
        within(what, 0, 1);
        int rank = rankOf(marks, NONE);
        return what == 0 ? rank : cells() - rank;
    }

    private long apart(int cell, int marks) {
        cell(cell);
        markSet(marks);
        return rankOf(marks, cell) == rankOf(marks, NONE) - 1 ? 1 : 0;
    }

    private long odds(int from, int to, int set, int least) {
        years(from, to);
        cellSet(set);
        within(least, 0, 54);
        List<int[]> all = all(from, to, 255, smooth);
        want(!all.isEmpty(), 6);
        long some = all.stream().filter(slips -> together(slips, set) >= least).count();
        return tell(BigInteger.valueOf(some), BigInteger.valueOf(all.size()));
    }

    // ---- SAVED, NET, FEW

    private long shake(int year, int cell, int units) {
        within(year, 0, 19);
        cell(cell);
        within(units, 0, 99);
        want(shakes.size() < 30, 4);
        shakes.add(new Shake(year, cell, units));
        return 1;
    }

    private long saved(int cell, int year, int what) {
        cell(cell);
        within(year, 0, 19);
        within(what, 0, 1);
        Cell stuck = land.cells.get(cell);
        Part hundred = Part.of(100);
        Part yearly = Part.of(stuck.saves).by(hundred).times(Part.of(what == 0 ? stuck.least : stuck.most).by(hundred));
        Part there = Part.of(0);
        for (int y = 0; y <= year; y++) {
            there = there.plus(yearly);
            for (Shake shake : shakes) {
                if (shake.year == y && shake.cell == cell) {
                    Part left = there.minus(Part.of(shake.units));
                    there = left.sign() < 0 ? Part.of(0) : left;
                }
            }
        }
        return tell(there.above, there.below);
    }

    private long net(int tray, int purse) {
        within(tray, 0, 3);
        within(purse, 0, 10000);
        want(trays[tray] != null, 2);
        want(trays[tray].length >= marks(), 3);
        int seen = 0;
        for (int mark = 0; mark < marks(); mark++) {
            within(trays[tray][mark], 0, 1000);
            seen |= values(mark, 0, 19).isEmpty() ? 0 : 1 << mark;
        }
        int[] best = null;
        for (int set = 0; set < 1 << marks(); set++) {
            int cost = 0;
            for (int mark = 0; mark < marks(); mark++) {
                cost += (set >> mark & 1) * (int) trays[tray][mark];
            }
            if ((set & seen) == 0 && cost <= purse) {
                int[] now = {-rankOf(set | seen, NONE), cost, set};
                if (best == null || Arrays.compare(now, best) < 0) {
                    best = now;
                }
            }
        }
        netTold = new int[] {best[2], best[1]};
        return -best[0];
    }

    private long few(int tray, int many, int least, int most) {
        within(tray, 0, 3);
        within(many, 1, 8);
        within(least, 0, 2000);
        within(most, least, 2000);
        want(trays[tray] != null, 2);
        want(trays[tray].length >= many, 3);
        for (int k = 0; k < many; k++) {
            within(trays[tray][k], 1, 99);
        }
        // by sum: how many SHAKES, then how often each class, the best of all ways
        int[][] best = new int[most + 1][];
        best[0] = new int[many + 1];
        for (int sum = 1; sum <= most; sum++) {
            for (int k = 0; k < many; k++) {
                int before = sum - (int) trays[tray][k];
                if (before >= 0 && best[before] != null) {
                    int[] now = best[before].clone();
                    now[0]++;
                    now[k + 1]++;
                    if (best[sum] == null || Arrays.compare(now, best[sum]) < 0) {
                        best[sum] = now;
                    }
                }
            }
        }
        int[] found = null;
        for (int sum = least; sum <= most; sum++) {
            if (best[sum] != null && (found == null || best[sum][0] < found[0])) {
                found = best[sum];
            }
        }
        want(found != null, 6);
        fewTold = Arrays.copyOfRange(found, 1, found.length);
        return found[0];
    }
}
