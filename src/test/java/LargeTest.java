import java.math.BigInteger;

/** Grids with as many free pipes as may be: all 2 to the 24 choices are tried, so that nothing can overflow unseen. */
public final class LargeTest {
    private static final int FREE = 24;
    /** An object is used for at most 512 calls: so many, and those that read the text. */
    private static final int USES = 480;

    private final Check check = new Check();
    private final String text;
    private WaterGrid grid;
    private int uses;
    private final int columns;
    private final int rows;
    /** Ends of the free pipes, as bits of cells 5 y + x, and their numbers. */
    private final int[] ends = new int[FREE];
    private final int[] numbers = new int[FREE];
    private int[] openEnds = new int[0];
    private final byte[] wet = new byte[1 << FREE];

    private LargeTest(String text) {
        this.text = text;
        columns = grid().count(0);
        rows = grid().count(1);
        int found = 0;
        for (int y = 0; y < rows; y++) {
            for (int x = 0; x < columns; x++) {
                for (int d = 0; d < 2; d++) {
                    int toX = x + 1 - d;
                    int toY = y + d;
                    if (toX >= columns || toY >= rows) continue;
                    int both = 1 << 5 * y + x | 1 << 5 * toY + toX;
                    int status = grid().pipe(x, y, d == 1);
                    if (status == 0) {
                        numbers[found] = 10 * y + 2 * x + d;
                        ends[found++] = both;
                    } else if (status == 1) {
                        openEnds = java.util.Arrays.copyOf(openEnds, openEnds.length + 1);
                        openEnds[openEnds.length - 1] = both;
                    }
                }
            }
        }
        check.due("free pipes", found, FREE);
    }

    private WaterGrid grid() {
        if (uses++ % USES == 0) grid = Check.grid(text);
        return grid;
    }

    public static void main(String[] args) {
        new LargeTest("grid 4 4;").run();
        new LargeTest("grid 5 5;stone 4 0;open 0 0 right;open 2 0 right;shut 0 1 right;open 2 1 right;open 1 2 right;"
                + "shut 3 2 right;open 0 3 right;shut 2 3 right;open 3 3 right;open 1 1 down;shut 2 2 down;open 1 4 right;"
                + "shut 0 2 down;open 3 1 down;").run();
        new LargeTest("grid 5 4;open 0 0 right;shut 3 3 right;open 2 1 down;shut 1 2 down;open 4 0 down;shut 2 2 right;"
                + "open 0 1 right;").run();
        new LargeTest("grid 4 5;open 0 0 right;shut 2 3 right;open 2 1 down;shut 1 2 down;open 3 0 down;shut 2 2 right;"
                + "open 0 3 down;").run();
        new LargeTest("grid 5 5;stone 2 2;stone 0 4;stone 4 1;stone 1 0;shut 3 3 right;shut 0 3 right;open 3 0 right;"
                + "open 2 3 down;").run();
    }

    private void run() {
        tryAll();
        joins();
        values();
        deciders();
        check.finish("24 free pipes in " + columns + " by " + rows);
    }

    private void tryAll() {
        int top = 0;
        for (int x = 0; x < columns; x++) if (!grid().stone(x, 0)) top |= 1 << x;
        for (int c = 0; c < wet.length; c++) {
            int cells = top;
            for (int before = 0; before != cells;) {
                before = cells;
                for (int both : openEnds) if ((cells & both) != 0) cells |= both;
                for (int rest = c; rest != 0; rest &= rest - 1) {
                    int both = ends[Integer.numberOfTrailingZeros(rest)];
                    if ((cells & both) != 0) cells |= both;
                }
            }
            wet[c] = (byte) (cells >>> 5 * (rows - 1) & 31);
        }
    }

    private long[] counts(int set) {
        long[] found = new long[FREE + 1];
        for (int c = 0; c < wet.length; c++) if (set < 0 ? wet[c] != 0 : wet[c] == set) found[Integer.bitCount(c)]++;
        return found;
    }

    private void joins() {
        long[] joins = counts(-1);
        for (int k = 0; k <= FREE; k++) {
            check.due("joins " + k, grid().joins(k), joins[k]);
            check.due("bars " + k, grid().bars(FREE - k), grid().choices(k) - joins[k]);
            check.due("reaches " + k, grid().reaches(rows - 1, k), joins[k]);
        }
        for (int set : new int[] {0, 1, 5, (1 << columns) - 1}) {
            long[] found = counts(set);
            for (int k = 0; k <= FREE; k++) check.due("wet " + set + " " + k, grid().wet(set, k), found[k]);
        }
    }

    private static BigInteger weigh(long[] counts, int all, int a, int b) {
        BigInteger sum = BigInteger.ZERO;
        for (int k = 0; k <= all; k++) {
            BigInteger weight = BigInteger.valueOf(a).pow(k).multiply(BigInteger.valueOf(b - a).pow(all - k));
            sum = sum.add(weight.multiply(BigInteger.valueOf(counts[k])));
        }
        return sum;
    }

    private void fraction(String what, BigInteger upper, BigInteger lower, long gotUpper, long gotLower) {
        BigInteger g = upper.gcd(lower);
        check.due(what, gotUpper + "/" + gotLower, upper.divide(g) + "/" + lower.divide(g));
    }

    private void values() {
        long[] joins = counts(-1);
        long[] cells = new long[FREE + 1];
        for (int c = 0; c < wet.length; c++) cells[Integer.bitCount(c)] += Integer.bitCount(wet[c]);
        for (int b = 1; b <= 6; b++) {
            for (int a = 0; a <= b; a++) {
                BigInteger all = BigInteger.valueOf(b).pow(FREE);
                BigInteger upper = weigh(joins, FREE, a, b);
                fraction("value " + a + " " + b, upper, all, grid().value(a, b, false), grid().value(a, b, true));
                fraction("barred", all.subtract(upper), all, grid().barred(a, b, false), grid().barred(a, b, true));
                if (b == 6) continue;
                fraction("wetness " + a + " " + b, weigh(cells, FREE, a, b), all, grid().wetness(a, b, false), grid().wetness(a, b, true));
                depth(a, b);
            }
        }
        mean(joins);
    }

    private void depth(int a, int b) {
        BigInteger upper = BigInteger.ZERO;
        for (int row = 0; row < rows; row++) {
            int here = 0;
            for (int number : numbers) if (number / 10 + number % 2 <= row) here++;
            long[] counts = new long[FREE + 1];
            for (int k = 0; k <= FREE; k++) counts[k] = grid().reaches(row, k);
            upper = upper.add(weigh(counts, here, a, b).multiply(BigInteger.valueOf(b).pow(FREE - here)));
        }
        fraction("depth " + a + " " + b, upper, BigInteger.valueOf(b).pow(FREE), grid().depth(a, b, false), grid().depth(a, b, true));
    }

    private void mean(long[] joins) {
        BigInteger upper = BigInteger.ZERO;
        BigInteger lower = BigInteger.ONE;
        for (int k = 0; k < FREE; k++) {
            BigInteger all = BigInteger.valueOf(grid().choices(k));
            upper = upper.multiply(all).add(lower.multiply(all.subtract(BigInteger.valueOf(joins[k]))));
            lower = lower.multiply(all);
        }
        fraction("mean", upper, lower, grid().mean(false), grid().mean(true));
    }

    private void deciders() {
        long[][] decided = new long[FREE][FREE];
        for (int i = 0; i < FREE; i++) {
            int bit = 1 << i;
            for (int c = 0; c < wet.length; c++) {
                if ((c & bit) == 0 && wet[c | bit] != 0 && wet[c] == 0) decided[i][Integer.bitCount(c)]++;
            }
            for (int k = 0; k < FREE; k++) {
                check.due("decides " + numbers[i] + " " + k, grid().decides(x(i), y(i), isDown(i), k), decided[i][k]);
            }
        }
        for (int b = 1; b <= 6; b++) {
            for (int a = 0; a <= b; a++) ranks(decided, a, b);
        }
    }

    private int x(int i) { return numbers[i] % 10 / 2; }

    private int y(int i) { return numbers[i] / 10; }

    private boolean isDown(int i) { return numbers[i] % 2 == 1; }

    private void ranks(long[][] decided, int a, int b) {
        BigInteger[] chance = new BigInteger[FREE];
        for (int i = 0; i < FREE; i++) chance[i] = weigh(decided[i], FREE - 1, a, b);
        int leader = 0;
        for (int i = 0; i < FREE; i++) {
            if (chance[i].compareTo(chance[leader]) > 0) leader = i;
            int greater = 0;
            for (BigInteger other : chance) if (other.compareTo(chance[i]) > 0) greater++;
            check.due("rank " + numbers[i] + " " + a + " " + b, grid().rank(x(i), y(i), isDown(i), a, b), greater);
            for (int how = 1; how <= 2; how++) would(i, how, a, b, chance[i]);
        }
        check.due("leader " + a + " " + b, grid().leader(a, b), numbers[leader]);
    }

    /** Value is a parts of what it is with the pipe open and b - a of what it is with it shut; they differ by the chance to decide. */
    private void would(int i, int how, int a, int b, BigInteger chance) {
        BigInteger all = BigInteger.valueOf(b).pow(FREE);
        BigInteger value = all.multiply(BigInteger.valueOf(grid().value(a, b, false))).divide(BigInteger.valueOf(grid().value(a, b, true)));
        BigInteger shift = chance.multiply(BigInteger.valueOf(how == 1 ? b - a : -a));
        fraction("would " + numbers[i] + " " + how, value.add(shift), all,
                grid().would(x(i), y(i), isDown(i), how, a, b, false), grid().would(x(i), y(i), isDown(i), how, a, b, true));
    }
}
