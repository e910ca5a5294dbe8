import java.util.Random;

/**
 * Lands of six CELLS, by a fixed seed: what is told of their SLIPS is held against a plain way through all 1,000,000 rows
 * of numbers 0 to 9. ModelTest's second writing is too slow for so many CELLS.
 */
public final class SixCellsTest {
    private static final int CELLS = 6;
    private static final int ROWS = 1000000;

    private final Random random;
    private final Run run;
    private final int marks;
    private final int[][] units;
    private final boolean[][] near = new boolean[CELLS][CELLS];
    private final int[] low;
    private final int[] high;
    private int moved = 0;
    private int smooth;

    private SixCellsTest(int seed) {
        // seeds that lie close together begin alike
        random = new Random(seed * 0x9E3779B97F4A7C15L);
        run = new Run("six cells, seed " + seed);
        marks = random.nextInt(9);
        units = new int[marks][CELLS];
        low = new int[marks];
        high = new int[marks];
        smooth = random.nextInt(3) == 0 ? 9 : random.nextInt(10);
    }

    public static void main(String[] args) {
        int many = args.length > 0 ? Integer.parseInt(args[0]) : 60;
        int from = args.length > 1 ? Integer.parseInt(args[1]) : 0;
        for (int seed = from; seed < from + many && Run.wrongAnswers() == 0; seed++) {
            SixCellsTest test = new SixCellsTest(seed);
            test.tell();
            test.ask();
        }
        Run.end("SixCellsTest");
    }

    // ---- a land and its rows

    private void tell() {
        int first = 1 + random.nextInt(5);
        StringBuilder text = new StringBuilder("sheet a cells " + first + " saves 0;sheet b cells " + (CELLS - first) + " saves 0;");
        for (int mark = 0; mark < marks; mark++) {
            text.append("mark ").append((char) ('k' + mark)).append(';');
        }
        int nears = random.nextInt(7);
        for (int i = 0; i < nears; i++) {
            tellNear(text, first);
        }
        // a text has no room for all 48 moves
        for (int i = random.nextInt(25); marks > 0 && i > 0; i--) {
            tellMoves(text, first);
        }
        run.yes("land of " + text, run.feed(text.toString()) > 0 && run.x.land(text.length()) >= 0);
        run.yes("smooth", run.x.smooth(smooth));
        tellRows();
    }

    private static String name(int cell, int first) {
        return cell < first ? "a " + cell : "b " + (cell - first);
    }

    private void tellNear(StringBuilder text, int first) {
        int one = random.nextInt(CELLS);
        int other = random.nextInt(CELLS);
        if (one != other && !near[one][other]) {
            near[one][other] = true;
            near[other][one] = true;
            text.append("near ").append(name(one, first)).append(' ').append(name(other, first)).append(';');
        }
    }

    private void tellMoves(StringBuilder text, int first) {
        int mark = random.nextInt(marks);
        int cell = random.nextInt(CELLS);
        int much = 1 + random.nextInt(random.nextInt(3) == 0 ? 9 : 3);
        if (units[mark][cell] == 0) {
            units[mark][cell] = random.nextInt(3) == 0 ? -much : much;
            text.append("moves ").append(name(cell, first)).append(' ').append((char) ('k' + mark)).append(units[mark][cell]).append(';');
        }
    }

    /** Most MARKS move as some one row of numbers moves them, others somewhat off. */
    private void tellRows() {
        int[] hidden = new int[CELLS];
        int around = random.nextInt(10);
        for (int cell = 0; cell < CELLS; cell++) {
            hidden[cell] = Math.max(0, Math.min(9, around + random.nextInt(5) - 2));
        }
        int rough = random.nextInt(4) == 0 ? 15 : 1;
        int wide = random.nextInt(3) == 0 ? 30 : 3;
        for (int mark = 0; mark < marks; mark++) {
            int begin = random.nextInt(200) - 100;
            int much = sum(units[mark], hidden) + random.nextInt(2 * rough + 1) - rough;
            int spanAhead = random.nextInt(wide);
            int spanBehind = random.nextInt(wide);
            run.yes("row", run.x.row(mark, 4, begin, spanAhead, 0));
            if (random.nextInt(8) > 0) {
                run.yes("row", run.x.row(mark, 9, begin + much, spanBehind, 0));
                moved |= 1 << mark;
                low[mark] = much - spanAhead - spanBehind;
                high[mark] = much + spanAhead + spanBehind;
            }
        }
    }

    // ---- the plain way

    private static int sum(int[] units, int[] slips) {
        int sum = 0;
        for (int cell = 0; cell < CELLS; cell++) {
            sum += units[cell] * slips[cell];
        }
        return sum;
    }

    private int within(int[] slips) {
        int within = 0;
        for (int mark = 0; mark < marks; mark++) {
            int sum = sum(units[mark], slips);
            if ((moved >> mark & 1) != 0 && sum >= low[mark] && sum <= high[mark]) {
                within |= 1 << mark;
            }
        }
        return within;
    }

    private int roughness(int[] slips) {
        int most = 0;
        for (int one = 0; one < CELLS; one++) {
            for (int other = 0; other < one; other++) {
                most = near[one][other] ? Math.max(most, Math.abs(slips[one] - slips[other])) : most;
            }
        }
        return most;
    }

    private static int together(int[] slips, int set) {
        int sum = 0;
        for (int cell = 0; cell < CELLS; cell++) {
            sum += (set >> cell & 1) * slips[cell];
        }
        return sum;
    }

    private void ask() {
        int set = 1 + random.nextInt(63);
        int need = random.nextInt(random.nextInt(10) == 0 ? 55 : 9 * Integer.bitCount(set) + 1);
        boolean[] met = new boolean[256];
        int corner = 10;
        int many = 0;
        int reached = 0;
        int least = 99;
        int most = -1;
        int[] firstOnes = null;
        int[] slips = new int[CELLS];
        for (int row = 0; row < ROWS; row++) {
            int rest = row;
            for (int cell = CELLS - 1; cell >= 0; cell--) {
                slips[cell] = rest % 10;
                rest /= 10;
            }
            int within = within(slips);
            int rough = roughness(slips);
            corner = within == moved ? Math.min(corner, rough) : corner;
            if (rough > smooth) {
                continue;
            }
            met[within] = true;
            if (within == moved) {
                int sum = together(slips, set);
                many++;
                reached += sum >= need ? 1 : 0;
                least = Math.min(least, sum);
                most = Math.max(most, sum);
                firstOnes = firstOnes == null ? slips.clone() : firstOnes;
            }
        }
        run.is("slips", run.x.slips(4, 9), many);
        askOne("corner", run.x.corner(4, 9), corner < 10, corner);
        askOne("ends, least, of " + set, run.x.ends(4, 9, set, 0), many > 0, least);
        askOne("ends, most, of " + set, run.x.ends(4, 9, set, 1), many > 0, most);
        for (int cell = 0; cell < CELLS; cell++) {
            askOne("first of " + cell, run.x.first(4, 9, cell), many > 0, many > 0 ? firstOnes[cell] : 0);
        }
        askOdds(set, need, reached, many);
        askQuarrel(met);
    }

    private void askOne(String call, int got, boolean isThere, int want) {
        if (isThere) {
            run.is(call, got, want);
        } else {
            run.none(call, got, 6);
        }
    }

    private void askOdds(int set, int need, int reached, int many) {
        int got = run.x.odds(4, 9, set, need);
        if (many == 0) {
            run.none("odds", got, 6);
            return;
        }
        int divisor = 1;
        for (int i = 2; i <= many; i++) {
            divisor = reached % i == 0 && many % i == 0 ? i : divisor;
        }
        run.fraction("odds of " + set + " for " + need, got, reached / divisor, many / divisor);
    }

    private static boolean hasSlips(boolean[] met, int set) {
        for (int within = 0; within < met.length; within++) {
            if (met[within] && (set & ~within) == 0) {
                return true;
            }
        }
        return false;
    }

    private void askQuarrel(boolean[] met) {
        int fewest = 9;
        int first = 0;
        int rivals = 0;
        for (int set = 0; set < met.length; set++) {
            if ((set & ~moved) != 0 || hasSlips(met, set) || Integer.bitCount(set) > fewest) {
                continue;
            }
            first = Integer.bitCount(set) < fewest ? set : first;
            rivals = Integer.bitCount(set) < fewest ? 1 : rivals + 1;
            fewest = Integer.bitCount(set);
        }
        askOne("quarrel, the fewest", run.x.quarrel(4, 9, 0), rivals > 0, fewest);
        askOne("quarrel, the first set", run.x.quarrel(4, 9, 1), rivals > 0, first);
        askOne("quarrel, RIVALS", run.x.quarrel(4, 9, 2), rivals > 0, rivals);
        for (int mark = 0; mark < marks; mark++) {
            run.is("without " + mark, run.x.without(4, 9, mark), hasSlips(met, moved & ~(1 << mark)) ? 1 : 0);
        }
    }
}
