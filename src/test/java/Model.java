import java.math.BigInteger;
import java.util.ArrayDeque;
import java.util.ArrayList;
import java.util.Arrays;
import java.util.Deque;
import java.util.List;
import java.util.NoSuchElementException;
import java.util.TreeMap;

/** The document's words, taken literally: every choice is tried. Slow, and only for few free pipes. */
final class Model {
    static final int NONE = -1;

    record Pipe(int x, int y, boolean down) {
        int number() { return 10 * y + 2 * x + (down ? 1 : 0); }
        int endX() { return down ? x : x + 1; }
        int endY() { return down ? y + 1 : y; }
    }

    /** A grid told cell by cell and pipe by pipe. */
    static final class Plan {
        int columns = 1;
        int rows = 1;
        final int[][][] told = new int[5][5][2];
        final boolean[][] stone = new boolean[5][5];

        Plan copy() {
            Plan next = new Plan();
            next.columns = columns;
            next.rows = rows;
            for (int x = 0; x < 5; x++) {
                for (int y = 0; y < 5; y++) {
                    next.told[x][y] = told[x][y].clone();
                }
                next.stone[x] = stone[x].clone();
            }
            return next;
        }

        boolean hasCell(int x, int y) { return x >= 0 && y >= 0 && x < columns && y < rows; }

        boolean hasPipe(int x, int y, boolean down) {
            return hasCell(x, y) && hasCell(down ? x : x + 1, down ? y + 1 : y);
        }

        int status(Pipe p) {
            return stone[p.x][p.y] || stone[p.endX()][p.endY()] ? 2 : told[p.x][p.y][p.down ? 1 : 0];
        }

        List<Pipe> pipes() {
            List<Pipe> all = new ArrayList<>();
            for (int y = 0; y < rows; y++) {
                for (int x = 0; x < columns; x++) {
                    if (hasPipe(x, y, false)) all.add(new Pipe(x, y, false));
                    if (hasPipe(x, y, true)) all.add(new Pipe(x, y, true));
                }
            }
            return all;
        }

        List<Pipe> withStatus(int status) {
            List<Pipe> some = new ArrayList<>();
            for (Pipe p : pipes()) if (status(p) == status) some.add(p);
            return some;
        }
    }

    private final int[] tape = new int[400];
    private int length;
    private int fault = NONE;
    Plan plan = new Plan();
    private final Deque<Plan> acts = new ArrayDeque<>();
    private byte[] written = new byte[0];
    private int keptFree = NONE;
    private int keptHalf;
    private long[] keptJoins;

    // What was tried of the present plan.
    private boolean fresh;
    private List<Pipe> free;
    private boolean[] joined;
    private long[] joinCounts;

    private void renew() {
        if (fresh) return;
        fresh = true;
        free = plan.withStatus(0);
        joined = new boolean[1 << free.size()];
        joinCounts = new long[free.size() + 1];
        for (int c = 0; c < joined.length; c++) {
            joined[c] = joinsWith(opened(free, c));
            if (joined[c]) joinCounts[Integer.bitCount(c)]++;
        }
    }

    private void change(Plan next) {
        plan = next;
        fresh = false;
    }

    private List<Pipe> opened(List<Pipe> some, long choice) {
        List<Pipe> open = plan.withStatus(1);
        for (int i = 0; i < some.size(); i++) if ((choice >>> i & 1) != 0) open.add(some.get(i));
        return open;
    }

    /** The part that each cell is of, [x][y]: 0, if it is wet. */
    private int[][] parts(List<Pipe> open) {
        int[][] part = new int[5][5];
        int next = 1;
        for (int[] column : part) for (int y = 0; y < 5; y++) column[y] = next++;
        for (int x = 0; x < plan.columns; x++) if (!plan.stone[x][0]) part[x][0] = 0;
        for (Pipe p : open) {
            int a = part[p.x][p.y];
            int b = part[p.endX()][p.endY()];
            for (int[] column : part) for (int y = 0; y < 5; y++) if (column[y] == Math.max(a, b)) column[y] = Math.min(a, b);
        }
        return part;
    }

    private boolean joinsWith(List<Pipe> open) {
        int[][] part = parts(open);
        for (int x = 0; x < plan.columns; x++) if (part[x][plan.rows - 1] == 0) return true;
        return false;
    }

    // ---- the text

    int feed(int a, int b, int c, int d, int e) {
        if (length + 20 > 400) return NONE;
        for (int four : new int[] {a, b, c, d, e}) {
            for (int i = 3; i >= 0; i--) tape[length++] = four >> 8 * i & 255;
        }
        return length;
    }

    boolean end(int n) {
        if (n < 0 || n > length) return false;
        length = n;
        return true;
    }

    private record Token(int at, String text) { }

    private List<Token> tokens() {
        List<Token> found = new ArrayList<>();
        StringBuilder all = new StringBuilder();
        for (int i = 0; i < length; i++) all.append((char) tape[i]);
        var matcher = java.util.regex.Pattern.compile("[\\t\\n ]+|[a-z]+|[0-9]+|(?s:.)").matcher(all);
        while (matcher.find()) {
            if (!matcher.group().isBlank() || "\r\f\u000b\u001c\u001d\u001e\u001f".contains(matcher.group())) {
                found.add(new Token(matcher.start(), matcher.group()));
            }
        }
        return found;
    }

    int read() {
        Plan next = new Plan();
        fault = faultOf(tokens(), next);
        length = 0;
        if (fault != NONE) throw new IllegalArgumentException();
        acts.clear();
        change(next);
        return next.withStatus(0).size();
    }

    private int faultOf(List<Token> tokens, Plan next) {
        int i = 0;
        String[] head = {"grid", "1-5", "1-5", ";"};
        for (String want : head) {
            if (i == tokens.size()) return length;
            String got = tokens.get(i).text;
            boolean right = want.length() == 3 ? got.matches("[1-5]") : got.equals(want);
            if (!right) return tokens.get(i).at;
            if (i == 1) next.columns = got.charAt(0) - '0';
            if (i == 2) next.rows = got.charAt(0) - '0';
            i++;
        }
        while (i < tokens.size()) {
            String kind = tokens.get(i).text;
            if (!List.of("open", "shut", "stone").contains(kind)) return tokens.get(i).at;
            int[] n = new int[2];
            for (int j = 0; j < 2; j++) {
                if (++i == tokens.size()) return length;
                String got = tokens.get(i).text;
                if (!got.matches("[0-9]")) return tokens.get(i).at;
                n[j] = got.charAt(0) - '0';
                if (n[j] >= (j == 0 ? next.columns : next.rows)) return tokens.get(i).at;
            }
            if (kind.equals("stone")) {
                if (next.stone[n[0]][n[1]]) return tokens.get(i).at;
                next.stone[n[0]][n[1]] = true;
            } else {
                if (++i == tokens.size()) return length;
                String way = tokens.get(i).text;
                boolean down = way.equals("down");
                if (!down && !way.equals("right")) return tokens.get(i).at;
                if (!next.hasPipe(n[0], n[1], down)) return tokens.get(i).at;
                if (next.told[n[0]][n[1]][down ? 1 : 0] != 0) return tokens.get(i).at;
                next.told[n[0]][n[1]][down ? 1 : 0] = kind.equals("open") ? 1 : 2;
            }
            if (++i == tokens.size()) return length;
            if (!tokens.get(i).text.equals(";")) return tokens.get(i).at;
            i++;
        }
        return next.withStatus(0).size() > 24 ? length : NONE;
    }

    int fault() { return fault; }

    // ---- the grid, acts

    private Pipe pipeAt(int x, int y, boolean down) {
        if (!plan.hasPipe(x, y, down)) throw new IndexOutOfBoundsException();
        return new Pipe(x, y, down);
    }

    private void cellAt(int x, int y) {
        if (!plan.hasCell(x, y)) throw new IndexOutOfBoundsException();
    }

    private void rowAt(int row) {
        if (row < 0 || row >= plan.rows) throw new IndexOutOfBoundsException();
    }

    private static void chance(int a, int b, int most) {
        if (b < 1 || b > most || a < 0 || a > b) throw new IllegalArgumentException();
    }

    int pipe(int x, int y, boolean down) { return plan.status(pipeAt(x, y, down)); }

    boolean stone(int x, int y) {
        cellAt(x, y);
        return plan.stone[x][y];
    }

    private void act(Plan next) {
        acts.addLast(plan);
        if (acts.size() > 16) acts.removeFirst();
        change(next);
    }

    int tell(int x, int y, boolean down, int how) {
        pipeAt(x, y, down);
        if (how < 0 || how > 2) throw new IllegalArgumentException();
        Plan next = plan.copy();
        int before = plan.told[x][y][down ? 1 : 0];
        next.told[x][y][down ? 1 : 0] = how;
        if (next.withStatus(0).size() > 24) throw new IllegalStateException();
        act(next);
        return before;
    }

    boolean put(int x, int y, boolean stone) {
        cellAt(x, y);
        Plan next = plan.copy();
        next.stone[x][y] = stone;
        if (next.withStatus(0).size() > 24) throw new IllegalStateException();
        boolean before = plan.stone[x][y];
        act(next);
        return before;
    }

    void turn(int how) {
        if (how < 0 || how > 2) throw new IllegalArgumentException();
        Plan next = new Plan();
        next.columns = how == 2 ? plan.rows : plan.columns;
        next.rows = how == 2 ? plan.columns : plan.rows;
        for (int x = 0; x < plan.columns; x++) {
            for (int y = 0; y < plan.rows; y++) {
                int[] to = turned(x, y, how);
                next.stone[to[0]][to[1]] = plan.stone[x][y];
            }
        }
        for (Pipe p : plan.pipes()) {
            int[] one = turned(p.x, p.y, how);
            int[] other = turned(p.endX(), p.endY(), how);
            int x = Math.min(one[0], other[0]);
            int y = Math.min(one[1], other[1]);
            next.told[x][y][one[0] == other[0] ? 1 : 0] = plan.told[p.x][p.y][p.down ? 1 : 0];
        }
        act(next);
    }

    private int[] turned(int x, int y, int how) {
        if (how == 0) return new int[] {plan.columns - 1 - x, y};
        if (how == 1) return new int[] {x, plan.rows - 1 - y};
        return new int[] {y, x};
    }

    private List<Pipe> draw(int seed, int a, int b) {
        List<Pipe> open = new ArrayList<>();
        for (Pipe p : plan.withStatus(0)) {
            seed = 1103515245 * seed + 12345;
            if ((seed >> 16 & 32767) % b < a) open.add(p);
        }
        return open;
    }

    boolean drain(int seed, int a, int b) {
        chance(a, b, 6);
        List<Pipe> open = draw(seed, a, b);
        Plan next = plan.copy();
        for (Pipe p : plan.withStatus(0)) next.told[p.x][p.y][p.down ? 1 : 0] = open.contains(p) ? 1 : 2;
        act(next);
        return joinsWith(plan.withStatus(1));
    }

    int undo() {
        if (acts.isEmpty()) return NONE;
        change(acts.removeLast());
        return acts.size();
    }

    // ---- by so many

    long joins(int k) {
        renew();
        return k < 0 || k > free.size() ? 0 : joinCounts[k];
    }

    private boolean barsWith(List<Pipe> open) {
        if (plan.rows < 2) return false;
        int width = plan.columns + 1;
        int[] place = new int[(plan.rows - 1) * width];
        for (int i = 0; i < place.length; i++) place[i] = i;
        for (int y = 0; y < plan.rows - 1; y++) {
            merge(place, 0, y * width);
            merge(place, plan.columns, y * width + plan.columns);
        }
        for (Pipe p : plan.pipes()) {
            if (open.contains(p)) continue;
            if (p.down) merge(place, p.y * width + p.x, p.y * width + p.x + 1);
            else if (p.y > 0 && p.y < plan.rows - 1) merge(place, (p.y - 1) * width + p.x + 1, p.y * width + p.x + 1);
        }
        return place[0] == place[plan.columns];
    }

    private static void merge(int[] place, int one, int other) {
        int a = place[one];
        int b = place[other];
        for (int i = 0; i < place.length; i++) if (place[i] == b) place[i] = a;
    }

    long bars(int k) {
        renew();
        long sum = 0;
        for (int c = 0; c < joined.length; c++) {
            if (free.size() - Integer.bitCount(c) == k && barsWith(opened(free, c))) sum++;
        }
        return sum;
    }

    long choices(int k) {
        renew();
        long sum = 0;
        for (int c = 0; c < joined.length; c++) if (Integer.bitCount(c) == k) sum++;
        return sum;
    }

    private String digits(int row, int[][] part) {
        StringBuilder text = new StringBuilder();
        List<Integer> seen = new ArrayList<>();
        for (int x = 0; x < plan.columns; x++) {
            if (plan.stone[x][row]) text.append(9);
            else if (part[x][row] == 0) text.append(0);
            else {
                if (!seen.contains(part[x][row])) seen.add(part[x][row]);
                text.append(seen.indexOf(part[x][row]) + 1);
            }
        }
        return text.toString();
    }

    private static boolean isDownTo(Pipe p, int row) { return p.endY() <= row; }

    private List<Pipe> freeTo(int row) {
        List<Pipe> some = plan.withStatus(0);
        some.removeIf(p -> !isDownTo(p, row));
        return some;
    }

    private TreeMap<String, long[]> table(int row) {
        rowAt(row);
        TreeMap<String, long[]> table = new TreeMap<>();
        List<Pipe> some = freeTo(row);
        for (int c = 0; c < 1 << some.size(); c++) {
            List<Pipe> open = opened(some, c);
            open.removeIf(p -> !isDownTo(p, row));
            table.computeIfAbsent(digits(row, parts(open)), s -> new long[41])[Integer.bitCount(c)]++;
        }
        return table;
    }

    private static String nth(TreeMap<String, long[]> table, int k) {
        if (k < 0 || k >= table.size()) throw new NoSuchElementException();
        return new ArrayList<>(table.keySet()).get(k);
    }

    int states(int row) { return table(row).size(); }

    int state(int row, int k, int x) {
        cellAt(x, row);
        return nth(table(row), k).charAt(x) - '0';
    }

    long ways(int row, int k, int n) {
        TreeMap<String, long[]> table = table(row);
        long[] counts = table.get(nth(table, k));
        return n < 0 || n > 40 ? 0 : counts[n];
    }

    long wet(int set, int k) {
        if (set < 0 || set >= 1 << plan.columns) throw new IllegalArgumentException();
        renew();
        long sum = 0;
        for (int c = 0; c < joined.length; c++) {
            if (Integer.bitCount(c) != k) continue;
            int[][] part = parts(opened(free, c));
            int wet = 0;
            for (int x = 0; x < plan.columns; x++) if (part[x][plan.rows - 1] == 0) wet |= 1 << x;
            if (wet == set) sum++;
        }
        return sum;
    }

    long reaches(int row, int k) {
        long sum = 0;
        for (var entry : table(row).entrySet()) {
            if (entry.getKey().contains("0") && k >= 0 && k <= 40) sum += entry.getValue()[k];
        }
        return sum;
    }

    long parted(int row, int n) {
        long sum = 0;
        for (var entry : table(row).entrySet()) {
            int most = 0;
            for (char sign : entry.getKey().toCharArray()) if (sign != '9') most = Math.max(most, sign - '0');
            if (most == n) sum += Arrays.stream(entry.getValue()).sum();
        }
        return sum;
    }

    long pair(int x, int other, int k) {
        cellAt(x, plan.rows - 1);
        cellAt(other, plan.rows - 1);
        renew();
        long sum = 0;
        for (int c = 0; c < joined.length; c++) {
            if (Integer.bitCount(c) != k || plan.stone[x][plan.rows - 1]) continue;
            int[][] part = parts(opened(free, c));
            if (part[x][plan.rows - 1] == part[other][plan.rows - 1]) sum++;
        }
        return sum;
    }

    private void few() {
        if (plan.withStatus(0).size() > 12) throw new IllegalStateException();
        renew();
    }

    int tried(int k, int i) {
        few();
        List<Integer> found = new ArrayList<>();
        for (int c = 0; c < joined.length; c++) if (joined[c] && Integer.bitCount(c) == k) found.add(c);
        return i >= 0 && i < found.size() ? found.get(i) : NONE;
    }

    int just(int k) {
        few();
        List<Integer> found = new ArrayList<>();
        for (int c = 0; c < joined.length; c++) {
            boolean all = joined[c];
            for (int i = 0; i < free.size(); i++) if ((c >> i & 1) != 0 && joined[c ^ 1 << i]) all = false;
            if (all) found.add(c);
        }
        if (k == NONE) return found.size();
        return k >= 0 && k < found.size() ? found.get(k) : NONE;
    }

    long likeliest(int row, boolean choices) {
        long most = 0;
        int place = 0;
        int i = 0;
        for (long[] counts : table(row).values()) {
            long sum = Arrays.stream(counts).sum();
            if (sum > most) {
                most = sum;
                place = i;
            }
            i++;
        }
        return choices ? most : place;
    }

    int between(int y, int i, boolean down) {
        int toY = down ? y : y + 1;
        int toI = down ? i + 1 : i;
        if (y < 0 || i < 0 || y >= plan.rows - 1 || i > plan.columns) throw new IndexOutOfBoundsException();
        if (toY >= plan.rows - 1 || toI > plan.columns) throw new IndexOutOfBoundsException();
        if (!down && (i == 0 || i == plan.columns)) return 2;
        int status = down ? pipe(i, y, true) : pipe(i - 1, y + 1, false);
        return new int[] {0, 2, 1}[status];
    }

    boolean alike() {
        renew();
        for (int k = 0; k <= free.size(); k++) if (joins(k) != bars(k)) return false;
        return true;
    }

    // ---- by chances

    private static BigInteger weight(int open, int all, int a, int b) {
        return BigInteger.valueOf(a).pow(open).multiply(BigInteger.valueOf(b - a).pow(all - open));
    }

    private static long part(BigInteger upper, BigInteger lower, boolean low) {
        return (low ? lower : upper).divide(upper.gcd(lower)).longValueExact();
    }

    long value(int a, int b, boolean low) {
        chance(a, b, 6);
        renew();
        BigInteger sum = BigInteger.ZERO;
        for (int c = 0; c < joined.length; c++) {
            if (joined[c]) sum = sum.add(weight(Integer.bitCount(c), free.size(), a, b));
        }
        return part(sum, BigInteger.valueOf(b).pow(free.size()), low);
    }

    long barred(int a, int b, boolean low) {
        chance(a, b, 6);
        renew();
        BigInteger sum = BigInteger.ZERO;
        for (int c = 0; c < joined.length; c++) {
            if (barsWith(opened(free, c))) sum = sum.add(weight(Integer.bitCount(c), free.size(), a, b));
        }
        return part(sum, BigInteger.valueOf(b).pow(free.size()), low);
    }

    long would(int x, int y, boolean down, int how, int a, int b, boolean low) {
        Pipe p = pipeAt(x, y, down);
        chance(a, b, 6);
        if (how < 0 || how > 2) throw new IllegalArgumentException();
        if (plan.status(p) != 0) throw new IllegalStateException();
        Plan before = plan;
        Plan next = plan.copy();
        next.told[x][y][down ? 1 : 0] = how;
        change(next);
        long answer = value(a, b, low);
        change(before);
        return answer;
    }

    long wetness(int a, int b, boolean low) {
        chance(a, b, 5);
        renew();
        BigInteger sum = BigInteger.ZERO;
        for (int c = 0; c < joined.length; c++) {
            int[][] part = parts(opened(free, c));
            int wet = 0;
            for (int x = 0; x < plan.columns; x++) if (part[x][plan.rows - 1] == 0) wet++;
            sum = sum.add(weight(Integer.bitCount(c), free.size(), a, b).multiply(BigInteger.valueOf(wet)));
        }
        return part(sum, BigInteger.valueOf(b).pow(free.size()), low);
    }

    long depth(int a, int b, boolean low) {
        chance(a, b, 5);
        renew();
        BigInteger sum = BigInteger.ZERO;
        for (int c = 0; c < joined.length; c++) {
            int rows = 0;
            for (int row = 0; row < plan.rows; row++) {
                List<Pipe> open = opened(free, c);
                int to = row;
                open.removeIf(p -> !isDownTo(p, to));
                if (digits(row, parts(open)).contains("0")) rows++;
            }
            sum = sum.add(weight(Integer.bitCount(c), free.size(), a, b).multiply(BigInteger.valueOf(rows)));
        }
        return part(sum, BigInteger.valueOf(b).pow(free.size()), low);
    }

    int least(int n, int d) {
        if (d < 1 || d > 100 || n < 0 || n > d) throw new IllegalArgumentException();
        renew();
        for (int k = 0; k <= free.size(); k++) if (joins(k) * d >= n * choices(k)) return k;
        return NONE;
    }

    /** By the pipes that are open: how many more are opened on the average, over (free pipes)! */
    long mean(boolean low) {
        renew();
        if (!joined[joined.length - 1]) return NONE;
        int m = free.size();
        BigInteger[] upper = new BigInteger[joined.length];
        BigInteger[] lower = new BigInteger[joined.length];
        for (int c = joined.length - 1; c >= 0; c--) {
            upper[c] = BigInteger.ZERO;
            lower[c] = BigInteger.ONE;
            if (joined[c]) continue;
            int left = m - Integer.bitCount(c);
            for (int i = 0; i < m; i++) {
                int next = c | 1 << i;
                if (next == c) continue;
                upper[c] = upper[c].multiply(lower[next]).add(upper[next].multiply(lower[c]));
                lower[c] = lower[c].multiply(lower[next]);
            }
            lower[c] = lower[c].multiply(BigInteger.valueOf(left));
            upper[c] = upper[c].add(lower[c]);
            BigInteger g = upper[c].gcd(lower[c]);
            upper[c] = upper[c].divide(g);
            lower[c] = lower[c].divide(g);
        }
        return part(upper[0], lower[0], low);
    }

    int half() { return least(1, 2); }

    long decides(int x, int y, boolean down, int k) {
        Pipe p = pipeAt(x, y, down);
        if (plan.status(p) != 0) throw new IllegalStateException();
        renew();
        int bit = 1 << free.indexOf(p);
        long sum = 0;
        for (int c = 0; c < joined.length; c++) {
            if ((c & bit) == 0 && Integer.bitCount(c) == k && joined[c | bit] && !joined[c]) sum++;
        }
        return sum;
    }

    private BigInteger decidesBy(Pipe p, int a, int b) {
        BigInteger sum = BigInteger.ZERO;
        for (int k = 0; k < free.size(); k++) {
            BigInteger times = BigInteger.valueOf(decides(p.x, p.y, p.down, k));
            sum = sum.add(times.multiply(weight(k, free.size() - 1, a, b)));
        }
        return sum;
    }

    int leader(int a, int b) {
        chance(a, b, 6);
        renew();
        Pipe best = null;
        for (Pipe p : free) if (best == null || decidesBy(p, a, b).compareTo(decidesBy(best, a, b)) > 0) best = p;
        return best == null ? NONE : best.number();
    }

    int rank(int x, int y, boolean down, int a, int b) {
        Pipe one = pipeAt(x, y, down);
        chance(a, b, 6);
        if (plan.status(one) != 0) throw new IllegalStateException();
        renew();
        int greater = 0;
        for (Pipe p : free) if (decidesBy(p, a, b).compareTo(decidesBy(one, a, b)) > 0) greater++;
        return greater;
    }

    int toOpen() {
        renew();
        int few = 99;
        for (int c = 0; c < joined.length; c++) if (joined[c]) few = Math.min(few, Integer.bitCount(c));
        return few == 99 ? NONE : few;
    }

    int toShut() {
        renew();
        int few = 99;
        for (int c = 0; c < joined.length; c++) if (!joined[c]) few = Math.min(few, free.size() - Integer.bitCount(c));
        return few == 99 ? NONE : few;
    }

    int drawn(int seed, int a, int b, int what) {
        chance(a, b, 6);
        List<Pipe> chosen = draw(seed, a, b);
        List<Pipe> open = plan.withStatus(1);
        open.addAll(chosen);
        int[][] part = parts(open);
        int wet = 0;
        int last = NONE;
        for (int y = 0; y < plan.rows; y++) {
            for (int x = 0; x < plan.columns; x++) {
                if (part[x][y] == 0) {
                    wet++;
                    last = y;
                }
            }
        }
        switch (what) {
            case 0: return joinsWith(open) ? 1 : 0;
            case 1: return wet;
            case 2: return chosen.size();
            case 3: return last;
            default: throw new NoSuchElementException();
        }
    }

    int oneByOne(int seed, boolean last) {
        List<Pipe> order = plan.withStatus(0);
        for (int k = order.size(); k >= 2; k--) {
            seed = 1103515245 * seed + 12345;
            java.util.Collections.swap(order, k - 1, (seed >> 16 & 32767) % k);
        }
        for (int n = 0; n <= order.size(); n++) {
            List<Pipe> open = plan.withStatus(1);
            open.addAll(order.subList(0, n));
            if (joinsWith(open)) return !last ? n : n == 0 ? NONE : order.get(n - 1).number();
        }
        return NONE;
    }

    // ---- compared

    int keep() {
        renew();
        keptFree = free.size();
        keptHalf = half();
        keptJoins = joinCounts.clone();
        return keptHalf;
    }

    private static double share(int half, int free) {
        return free == 0 ? 0 : half == NONE ? 1000 : (double) half / free;
    }

    int compare() {
        if (keptFree == NONE) throw new NoSuchElementException();
        renew();
        return Double.compare(share(half(), free.size()), share(keptHalf, keptFree));
    }

    int beats() {
        if (keptFree == NONE) throw new NoSuchElementException();
        if (keptFree != plan.withStatus(0).size()) throw new IllegalStateException();
        renew();
        boolean more = false;
        boolean less = false;
        for (int k = 0; k <= keptFree; k++) {
            more |= joinCounts[k] > keptJoins[k];
            less |= joinCounts[k] < keptJoins[k];
        }
        return more ? less ? 3 : 1 : less ? 2 : 0;
    }

    int write() {
        StringBuilder text = new StringBuilder();
        for (int y = 0; y < plan.rows; y++) {
            for (int x = 0; x < plan.columns; x++) {
                if (x > 0) text.append(".- ".charAt(pipe(x - 1, y, false)));
                text.append(plan.stone[x][y] ? '#' : 'o');
            }
            text.append('\n');
            if (y == plan.rows - 1) break;
            for (int x = 0; x < plan.columns; x++) {
                if (x > 0) text.append(' ');
                text.append(".| ".charAt(pipe(x, y, true)));
            }
            text.append('\n');
        }
        written = text.toString().getBytes(java.nio.charset.StandardCharsets.ISO_8859_1);
        return written.length;
    }

    int octet(int k) { return k >= 0 && k < written.length ? written[k] : NONE; }

    int count(int what) {
        switch (what) {
            case 0: return plan.columns;
            case 1: return plan.rows;
            case 2: return plan.withStatus(0).size();
            case 3: return plan.withStatus(1).size();
            case 4: return plan.withStatus(2).size();
            case 5:
                int stones = 0;
                for (boolean[] column : plan.stone) for (boolean stone : column) if (stone) stones++;
                return stones;
            case 6: return acts.size();
            case 7: return written.length;
            default: return NONE;
        }
    }
}
