import java.util.NoSuchElementException;

/** Water that goes through a grid of cells by pipes that are open by chance. */
public final class WaterGrid {
    public static final int NONE = -1;

    private static final int FREE = 0;
    private static final int OPEN = 1;
    private static final int SHUT = 2;

    private static final int SIDE = 5;
    private static final int CELLS = SIDE * SIDE;
    private static final int MOST_PIPES = 40;
    private static final int MOST_FREE = 24;
    private static final int MOST_TRIED = 12;
    private static final int MOST_ACTS = 16;
    private static final int MOST_BYTES = 400;
    private static final int MOST_WRITTEN = 90;
    private static final int MOST_PARTS = 100;
    private static final int STONE_DIGIT = 9;

    /** Every pipe's number is below this. */
    private static final int NUMBERS = 50;
    /** Cells of the top row in a set of cells: a cell's bit is the number of its pipe right. */
    private static final long TOP_ROW = 0x155L;
    private static final long ALL_CELLS = 0x5555555555555555L;

    /** Ways to join five cells of a row and the water above them without crossing: Catalan's sixth number. */
    private static final int STATES = 132;
    /** One count for each number of open pipes, 0 to 24. */
    private static final int STRIDE = MOST_FREE + 1;
    /** A table of moves for each column's pipe down, and for each pipe right but the one that is not there. */
    private static final int SLOTS = 2 * SIDE - 1;

    private final Text text;
    private final Lattice lattice;
    private final Grid[] acts;
    private final int[] order;
    private final int[] written;
    private final long[] withOpen;
    private final Kept kept;
    private final Flow flow;
    private final Flow side;
    private final Deciders deciders;
    private final Trial trial;
    private int writtenLength;
    private int actCount;
    private Grid grid;
    private Grid sideOf;
    private int sidePipe;

    /** All rows are made here: what a call makes is counted with each call, so calls only use them again. */
    public WaterGrid() {
        text = new Text();
        lattice = new Lattice();
        flow = new Flow(lattice, SIDE);
        side = new Flow(lattice, 1);
        deciders = new Deciders(lattice);
        trial = new Trial(lattice);
        kept = new Kept();
        acts = new Grid[MOST_ACTS];
        order = new int[MOST_FREE];
        written = new int[MOST_WRITTEN];
        withOpen = new long[STRIDE];
        grid = new Grid(1, 1, 0L, 0L, 0L);
    }

    // ---- the text

    public int feed(int a, int b, int c, int d, int e) {
        if (text.length + 20 > MOST_BYTES) {
            return NONE;
        }
        text.append(a);
        text.append(b);
        text.append(c);
        text.append(d);
        text.append(e);
        return text.length;
    }

    public boolean end(int n) {
        if (n < 0 || n > text.length) {
            return false;
        }
        text.length = n;
        return true;
    }

    public int read() throws IllegalArgumentException {
        Grid told = new Reader(text).parse();
        text.length = 0;
        if (told == null) {
            throw new IllegalArgumentException("the text is wrong");
        }
        grid = told;
        actCount = 0;
        return grid.freeCount();
    }

    public int fault() {
        return text.fault;
    }

    // ---- what the grid is

    public int pipe(int x, int y, boolean down) throws IndexOutOfBoundsException {
        return grid.statusOf(demandPipe(x, y, down));
    }

    public boolean stone(int x, int y) throws IndexOutOfBoundsException {
        return grid.isStone(demandCell(x, y));
    }

    // ---- acts

    public int tell(int x, int y, boolean down, int how)
            throws IndexOutOfBoundsException, IllegalArgumentException, IllegalStateException {
        int number = demandPipe(x, y, down);
        demandHow(how);
        int before = grid.toldOf(number);
        act(demandFewFree(grid.withPipe(number, how)));
        return before;
    }

    public boolean put(int x, int y, boolean stone) throws IndexOutOfBoundsException, IllegalStateException {
        int cell = demandCell(x, y);
        boolean before = grid.isStone(cell);
        act(demandFewFree(grid.withStone(cell, stone)));
        return before;
    }

    public void turn(int how) throws IllegalArgumentException {
        if (how < 0 || how > 2) {
            throw new IllegalArgumentException("there is no such turn");
        }
        act(grid.turned(how));
    }

    public boolean drain(int seed, int a, int b) throws IllegalArgumentException {
        demandChance(a, b, 6);
        act(grid.drained(drawOpen(seed, a, b)));
        return grid.joinsBy(grid.open);
    }

    public int undo() {
        if (actCount <= 0 || actCount > MOST_ACTS) {
            return NONE;
        }
        actCount--;
        Grid before = acts[actCount];
        if (before != null) {
            grid = before;
        }
        return actCount;
    }

    // ---- by so many

    public long joins(int k) {
        return isCount(k) ? counted().joining[k] : 0L;
    }

    public long bars(int k) {
        return barring(counted().joining, k);
    }

    public long choices(int k) {
        return choose(grid.freeCount(), k);
    }

    public int states(int row) throws IndexOutOfBoundsException {
        demandRow(row);
        return counted().stateCount(row);
    }

    public int state(int row, int k, int x) throws IndexOutOfBoundsException, NoSuchElementException {
        demandCell(x, row);
        return digitOf(demandState(row, k), row, x);
    }

    public long ways(int row, int k, int n) throws IndexOutOfBoundsException, NoSuchElementException {
        demandRow(row);
        int found = demandState(row, k);
        return isCount(n) ? counted().waysTo(row, found, n) : 0L;
    }

    public long wet(int set, int k) throws IllegalArgumentException {
        if (set < 0 || set >= 1 << grid.columns) {
            throw new IllegalArgumentException("the set is none");
        }
        if (!isCount(k)) {
            return 0L;
        }
        Flow now = counted();
        long sum = 0L;
        for (int s = 0; s < lattice.size; s++) {
            if (lattice.wetCells[s] == set) {
                sum += now.waysTo(grid.rows - 1, s, k);
            }
        }
        return sum;
    }

    public long reaches(int row, int k) throws IndexOutOfBoundsException {
        demandRow(row);
        return isCount(k) ? counted().wetWays(row, k) : 0L;
    }

    public long parted(int row, int n) throws IndexOutOfBoundsException {
        demandRow(row);
        Flow now = counted();
        int stones = grid.stonesIn(row);
        long sum = 0L;
        for (int s = 0; s < lattice.size; s++) {
            if (lattice.greatest(s) - stones == n) {
                sum += now.totalOf(row, s);
            }
        }
        return sum;
    }

    public long pair(int x, int other, int k) throws IndexOutOfBoundsException {
        int last = grid.rows - 1;
        int cell = demandCell(x, last);
        demandCell(other, last);
        if (!isCount(k) || grid.isStone(cell)) {
            return 0L;
        }
        Flow now = counted();
        long sum = 0L;
        for (int s = 0; s < lattice.size; s++) {
            if (lattice.label(s, x) == lattice.label(s, other)) {
                sum += now.waysTo(last, s, k);
            }
        }
        return sum;
    }

    public int tried(int k, int i) throws IllegalStateException {
        return demandTrial().joiningAt(k, i);
    }

    public int just(int k) throws IllegalStateException {
        Trial all = demandTrial();
        return k == NONE ? all.leastCount() : all.leastAt(k);
    }

    public long likeliest(int row, boolean choices) throws IndexOutOfBoundsException {
        demandRow(row);
        Flow now = counted();
        long most = 0L;
        int place = 0;
        int seen = 0;
        for (int s = 0; s < lattice.size; s++) {
            long total = now.totalOf(row, s);
            if (total > most) {
                most = total;
                place = seen;
            }
            if (total > 0L) {
                seen++;
            }
        }
        return choices ? most : place;
    }

    public int between(int y, int i, boolean down) throws IndexOutOfBoundsException {
        boolean place = y >= 0 && y <= grid.rows - 2 && i >= 0 && i <= grid.columns;
        if (!place || (down ? i == grid.columns : y == grid.rows - 2)) {
            throw new IndexOutOfBoundsException("there is no such place, or none beyond");
        }
        if (!down && (i == 0 || i == grid.columns)) {
            return SHUT;
        }
        int status = grid.statusOf(down ? Grid.numberOf(i, y, true) : Grid.numberOf(i - 1, y + 1, false));
        if (status == FREE) {
            return FREE;
        }
        return status == OPEN ? SHUT : OPEN;
    }

    public boolean alike() {
        long[] joining = counted().joining;
        for (int k = 0; k <= grid.freeCount() && k < STRIDE; k++) {
            if (joining[k] != barring(joining, k)) {
                return false;
            }
        }
        return true;
    }

    // ---- by chances

    public long value(int a, int b, boolean low) throws IllegalArgumentException {
        demandChance(a, b, 6);
        int free = grid.freeCount();
        return lowest(weighed(counted().joining, free, a, b), power(b, free), low);
    }

    public long barred(int a, int b, boolean low) throws IllegalArgumentException {
        demandChance(a, b, 6);
        int free = grid.freeCount();
        long all = power(b, free);
        long upper = grid.rows < 2 ? 0L : all - weighed(counted().joining, free, a, b);
        return lowest(upper, all, low);
    }

    public long would(int x, int y, boolean down, int how, int a, int b, boolean low)
            throws IndexOutOfBoundsException, IllegalArgumentException, IllegalStateException {
        int number = demandPipe(x, y, down);
        demandChance(a, b, 6);
        demandHow(how);
        demandFree(number);
        if (how == FREE) {
            return value(a, b, low);
        }
        int others = grid.freeCount() - 1;
        long[] joining = joiningWith(number, how);
        return lowest(weighed(joining, others, a, b), power(b, others), low);
    }

    public long wetness(int a, int b, boolean low) throws IllegalArgumentException {
        demandChance(a, b, 5);
        Flow now = counted();
        int free = grid.freeCount();
        long sum = 0L;
        for (int k = 0; k <= free; k++) {
            long cells = 0L;
            for (int s = 0; s < lattice.size; s++) {
                cells += Integer.bitCount(lattice.wetCells[s]) * now.waysTo(grid.rows - 1, s, k);
            }
            sum += cells * (power(a, k) * power(b - a, free - k));
        }
        return lowest(sum, power(b, free), low);
    }

    public long depth(int a, int b, boolean low) throws IllegalArgumentException {
        demandChance(a, b, 5);
        Flow now = counted();
        int free = grid.freeCount();
        long sum = 0L;
        for (int row = 0; row < grid.rows; row++) {
            int here = now.freeTo(row);
            for (int k = 0; k <= here; k++) {
                long weight = power(a, k) * power(b - a, here - k) * power(b, free - here);
                sum += now.wetWays(row, k) * weight;
            }
        }
        return lowest(sum, power(b, free), low);
    }

    public int least(int n, int d) throws IllegalArgumentException {
        if (d < 1 || d > MOST_PARTS || n < 0 || n > d) {
            throw new IllegalArgumentException("n of d parts is none");
        }
        return leastBy(n, d);
    }

    public long mean(boolean low) {
        int free = grid.freeCount();
        long[] joining = counted().joining;
        if (free >= STRIDE || joining[free] == 0L) {
            return NONE;
        }
        // How many are opened is, for each k, 1 more where it does not join with the first k of them.
        long upper = 0L;
        long lower = 1L;
        for (int k = 0; k < free; k++) {
            long all = choose(free, k);
            long not = all - joining[k];
            long common = lowest(lower, all, true) * lower;
            if (lower > 0L && all > 0L) {
                upper = upper * (common / lower) + not * (common / all);
            }
            lower = common;
        }
        return lowest(upper, lower, low);
    }

    public int half() {
        return leastBy(1, 2);
    }

    public long decides(int x, int y, boolean down, int k) throws IndexOutOfBoundsException, IllegalStateException {
        int number = demandPipe(x, y, down);
        demandFree(number);
        if (!isCount(k)) {
            return 0L;
        }
        long shut = joiningWith(number, SHUT)[k];
        return joiningWith(number, OPEN)[k] - shut;
    }

    public int leader(int a, int b) throws IllegalArgumentException {
        demandChance(a, b, 6);
        long[] chances = decidedBy(a, b);
        int best = NONE;
        for (int number = 0; number < NUMBERS; number++) {
            if (grid.isFree(number) && (best < 0 || chances[number] > chances[best])) {
                best = number;
            }
        }
        return best;
    }

    public int rank(int x, int y, boolean down, int a, int b)
            throws IndexOutOfBoundsException, IllegalArgumentException, IllegalStateException {
        int number = demandPipe(x, y, down);
        demandChance(a, b, 6);
        demandFree(number);
        long[] chances = decidedBy(a, b);
        int greater = 0;
        for (int other = 0; other < NUMBERS; other++) {
            if (grid.isFree(other) && chances[other] > chances[number]) {
                greater++;
            }
        }
        return greater;
    }

    public int toOpen() {
        long[] joining = counted().joining;
        for (int k = 0; k < STRIDE; k++) {
            if (joining[k] > 0L) {
                return k;
            }
        }
        return NONE;
    }

    public int toShut() {
        int free = grid.freeCount();
        long[] joining = counted().joining;
        for (int k = 0; k <= free && free < STRIDE; k++) {
            if (joining[free - k] < choose(free, k)) {
                return k;
            }
        }
        return NONE;
    }

    public int drawn(int seed, int a, int b, int what) throws IllegalArgumentException, NoSuchElementException {
        demandChance(a, b, 6);
        if (what < 0 || what > 3) {
            throw new NoSuchElementException("there is no such what");
        }
        long opened = drawOpen(seed, a, b);
        if (what == 2) {
            return Long.bitCount(opened);
        }
        long cells = grid.flooded(opened | grid.open);
        if (what == 1) {
            return Long.bitCount(cells);
        }
        int last = lastRowOf(cells);
        if (what == 3) {
            return last;
        }
        return last == grid.rows - 1 ? 1 : 0;
    }

    public int oneByOne(int seed, boolean last) {
        long opened = grid.open;
        if (grid.joinsBy(opened)) {
            return last ? NONE : 0;
        }
        int free = orderBy(seed);
        for (int i = 0; i < free; i++) {
            opened |= 1L << order[i];
            if (grid.joinsBy(opened)) {
                return last ? order[i] : i + 1;
            }
        }
        return NONE;
    }

    // ---- compared

    public int keep() {
        kept.take(grid.freeCount(), leastBy(1, 2), counted().joining);
        return kept.half;
    }

    public int compare() throws NoSuchElementException {
        Kept then = demandKept();
        int free = grid.freeCount();
        int half = leastBy(1, 2);
        int here = Kept.upper(free, half) * Kept.lower(then.free, then.half);
        int there = Kept.upper(then.free, then.half) * Kept.lower(free, half);
        if (here == there) {
            return 0;
        }
        return here < there ? NONE : 1;
    }

    public int beats() throws NoSuchElementException, IllegalStateException {
        Kept then = demandKept();
        if (then.free != grid.freeCount()) {
            throw new IllegalStateException("not as many pipes are free in both");
        }
        long[] joining = counted().joining;
        int more = 0;
        int less = 0;
        for (int k = 0; k < STRIDE; k++) {
            if (joining[k] > then.joining[k]) {
                more = 1;
            }
            if (joining[k] < then.joining[k]) {
                less = 2;
            }
        }
        return more + less;
    }

    public int write() {
        writtenLength = 0;
        for (int y = 0; y < grid.rows; y++) {
            writeCells(y);
            if (y < grid.rows - 1) {
                writePipesDown(y);
            }
        }
        return writtenLength;
    }

    public int octet(int k) {
        return k >= 0 && k < writtenLength && k < written.length ? written[k] : NONE;
    }

    public int count(int what) {
        switch (what) {
            case 0: return grid.columns;
            case 1: return grid.rows;
            case 2: return grid.freeCount();
            case 3: return Long.bitCount(grid.open);
            case 4: return Long.bitCount(grid.shut);
            case 5: return Long.bitCount(grid.stones);
            case 6: return actCount;
            case 7: return writtenLength;
            default: return NONE;
        }
    }

    // ---- what a call demands

    private int demandCell(int x, int y) {
        if (!grid.hasCell(x, y)) {
            throw new IndexOutOfBoundsException("there is no such cell");
        }
        return Grid.numberOf(x, y, false);
    }

    private void demandRow(int row) {
        if (!grid.hasCell(0, row)) {
            throw new IndexOutOfBoundsException("there is no such row");
        }
    }

    private int demandPipe(int x, int y, boolean down) {
        if (!Grid.hasPipe(x, y, down, grid.columns, grid.rows)) {
            throw new IndexOutOfBoundsException("there is no such pipe");
        }
        return Grid.numberOf(x, y, down);
    }

    private static void demandHow(int how) {
        if (how < FREE || how > SHUT) {
            throw new IllegalArgumentException("a pipe is told free, open or shut");
        }
    }

    private static void demandChance(int a, int b, int most) {
        if (b < 1 || b > most || a < 0 || a > b) {
            throw new IllegalArgumentException("the chance is none");
        }
    }

    private void demandFree(int number) {
        if (!grid.isFree(number)) {
            throw new IllegalStateException("the pipe is not free");
        }
    }

    private static Grid demandFewFree(Grid next) {
        if (next.freeCount() > MOST_FREE) {
            throw new IllegalStateException("too many pipes would be free");
        }
        return next;
    }

    private int demandState(int row, int k) {
        int found = counted().stateAt(row, k);
        if (found < 0) {
            throw new NoSuchElementException("there is no such state");
        }
        return found;
    }

    private Trial demandTrial() {
        if (grid.freeCount() > MOST_TRIED) {
            throw new IllegalStateException("too many pipes are free");
        }
        lattice.fit(grid.columns, grid.rows);
        trial.follow(grid);
        return trial;
    }

    private Kept demandKept() {
        if (!kept.isThere) {
            throw new NoSuchElementException("nothing is kept");
        }
        return kept;
    }

    // ---- what calls share

    private void act(Grid next) {
        if (actCount >= MOST_ACTS) {
            for (int i = 1; i < MOST_ACTS; i++) {
                acts[i - 1] = acts[i];
            }
            actCount = MOST_ACTS - 1;
        }
        acts[actCount] = grid;
        actCount++;
        grid = next;
    }

    private static boolean isCount(int k) {
        return k >= 0 && k <= MOST_FREE;
    }

    private Flow counted() {
        lattice.fit(grid.columns, grid.rows);
        flow.follow(grid);
        return flow;
    }

    /** In how many choices of the other free pipes it joins, if this free one is told open or shut. */
    private long[] joiningWith(int number, int how) {
        long[] all = counted().joining;
        if (sideOf != grid || sidePipe != number) {
            side.follow(grid.withPipe(number, SHUT));
            sideOf = grid;
            sidePipe = number;
        }
        if (how == SHUT) {
            return side.joining;
        }
        // Of all that join with so many open pipes and one more, those with the pipe shut are none of these.
        withOpen[MOST_FREE] = 0L;
        for (int k = 0; k < MOST_FREE; k++) {
            withOpen[k] = all[k + 1] - side.joining[k + 1];
        }
        return withOpen;
    }

    private long barring(long[] joining, int k) {
        int free = grid.freeCount();
        if (grid.rows < 2 || k < 0 || k > free || free >= STRIDE) {
            return 0L;
        }
        // Places of the dual are one from left to right just where no open way leads from top to bottom.
        return choose(free, k) - joining[free - k];
    }

    private int leastBy(int n, int d) {
        int free = grid.freeCount();
        long[] joining = counted().joining;
        for (int k = 0; k <= free && k < STRIDE; k++) {
            if (joining[k] * d >= choose(free, k) * n) {
                return k;
            }
        }
        return NONE;
    }

    private long[] decidedBy(int a, int b) {
        lattice.fit(grid.columns, grid.rows);
        deciders.weigh(grid, a, b);
        return deciders.chances;
    }

    private int digitOf(int found, int row, int x) {
        if (grid.isStone(Grid.numberOf(x, row, false))) {
            return STONE_DIGIT;
        }
        int label = lattice.label(found, x);
        int lower = 0;
        for (int other = 0; other < grid.columns; other++) {
            // The lattice numbers stones like any cell that is joined to nothing.
            if (grid.isStone(Grid.numberOf(other, row, false)) && lattice.label(found, other) < label) {
                lower++;
            }
        }
        return label - lower;
    }

    private long drawOpen(int seed, int a, int b) {
        long opened = 0L;
        int next = seed;
        for (int number = 0; number < NUMBERS; number++) {
            if (grid.isFree(number)) {
                next = nextSeed(next);
                if (b > 0 && seedBits(next) % b < a) {
                    opened |= 1L << number;
                }
            }
        }
        return opened;
    }

    private int orderBy(int seed) {
        int free = 0;
        for (int number = 0; number < NUMBERS && free < MOST_FREE; number++) {
            if (grid.isFree(number)) {
                order[free] = number;
                free++;
            }
        }
        int next = seed;
        for (int k = free; k >= 2; k--) {
            next = nextSeed(next);
            int place = seedBits(next) % k;
            int moved = order[k - 1];
            order[k - 1] = order[place];
            order[place] = moved;
        }
        return free;
    }

    private static int nextSeed(int seed) {
        return 1103515245 * seed + 12345;
    }

    private static int seedBits(int seed) {
        return seed >>> 16 & 0x7fff;
    }

    private static int lastRowOf(long cells) {
        int last = NONE;
        for (int y = 0; y < SIDE; y++) {
            if ((cells & TOP_ROW << 10 * y) != 0L) {
                last = y;
            }
        }
        return last;
    }

    private void writeCells(int y) {
        for (int x = 0; x < grid.columns; x++) {
            int cell = Grid.numberOf(x, y, false);
            writeByte(grid.isStone(cell) ? '#' : 'o');
            writeByte(x == grid.columns - 1 ? '\n' : signOf(cell, '-'));
        }
    }

    private void writePipesDown(int y) {
        for (int x = 0; x < grid.columns; x++) {
            writeByte(signOf(Grid.numberOf(x, y, true), '|'));
            writeByte(x == grid.columns - 1 ? '\n' : ' ');
        }
    }

    private char signOf(int number, char open) {
        int status = grid.statusOf(number);
        if (status == FREE) {
            return '.';
        }
        return status == OPEN ? open : ' ';
    }

    private void writeByte(char sign) {
        if (writtenLength < written.length) {
            written[writtenLength] = sign;
            writtenLength++;
        }
    }

    // ---- numbers

    private static long choose(int n, int k) {
        if (k < 0 || k > n) {
            return 0L;
        }
        long product = 1L;
        for (int i = 1; i <= k; i++) {
            product = product * (n - k + i) / i;
        }
        return product;
    }

    private static long power(int base, int exponent) {
        long product = 1L;
        for (int i = 0; i < exponent; i++) {
            product *= base;
        }
        return product;
    }

    /** The upper number of a chance whose lower one is b to the number of free pipes. */
    private static long weighed(long[] counts, int free, int a, int b) {
        long sum = 0L;
        for (int k = 0; k <= free && k < counts.length; k++) {
            sum += counts[k] * (power(a, k) * power(b - a, free - k));
        }
        return sum;
    }

    private static long lowest(long upper, long lower, boolean low) {
        long divisor = lower;
        long rest = upper;
        for (int i = 0; i < 200 && rest != 0L; i++) {
            long next = divisor % rest;
            divisor = rest;
            rest = next;
        }
        if (divisor == 0L) {
            return 0L;
        }
        return (low ? lower : upper) / divisor;
    }

    /** A grid at one time. It never changes, so the grids ahead of acts need only be held to be undone to. */
    private static final class Grid {
        final int columns;
        final int rows;
        final long toldOpen;
        final long toldShut;
        final long stones;
        final long open;
        final long shut;
        final long free;

        Grid(int columns, int rows, long toldOpen, long toldShut, long stones) {
            this.columns = columns;
            this.rows = rows;
            this.toldOpen = toldOpen;
            this.toldShut = toldShut;
            this.stones = stones;
            long pipes = pipesOf(columns, rows);
            long ofStones = (stones | stones >>> 2 | stones << 1 | stones >>> 10 << 1) & pipes;
            open = toldOpen & ~ofStones;
            shut = toldShut | ofStones;
            free = pipes & ~open & ~shut;
        }

        private static long pipesOf(int columns, int rows) {
            long pipes = 0L;
            for (int y = 0; y < rows; y++) {
                for (int x = 0; x < columns; x++) {
                    if (hasPipe(x, y, false, columns, rows)) {
                        pipes |= 1L << numberOf(x, y, false);
                    }
                    if (hasPipe(x, y, true, columns, rows)) {
                        pipes |= 1L << numberOf(x, y, true);
                    }
                }
            }
            return pipes;
        }

        static int numberOf(int x, int y, boolean down) {
            return 10 * y + 2 * x + (down ? 1 : 0);
        }

        static boolean hasPipe(int x, int y, boolean down, int columns, int rows) {
            int lastX = down ? columns - 1 : columns - 2;
            int lastY = down ? rows - 2 : rows - 1;
            return x >= 0 && x <= lastX && y >= 0 && y <= lastY;
        }

        boolean hasCell(int x, int y) {
            return x >= 0 && x < columns && y >= 0 && y < rows;
        }

        boolean isStone(int cell) {
            return (stones >>> cell & 1L) != 0L;
        }

        boolean isFree(int number) {
            return (free >>> number & 1L) != 0L;
        }

        int freeCount() {
            return Long.bitCount(free);
        }

        int stonesIn(int row) {
            return Long.bitCount(stones & TOP_ROW << 10 * row);
        }

        int statusOf(int number) {
            return statusBy(open, shut, number);
        }

        int toldOf(int number) {
            return statusBy(toldOpen, toldShut, number);
        }

        private static int statusBy(long open, long shut, int number) {
            if ((shut >>> number & 1L) != 0L) {
                return SHUT;
            }
            return (open >>> number & 1L) != 0L ? OPEN : FREE;
        }

        Grid withPipe(int number, int how) {
            long bit = 1L << number;
            long nextOpen = how == OPEN ? toldOpen | bit : toldOpen & ~bit;
            long nextShut = how == SHUT ? toldShut | bit : toldShut & ~bit;
            return new Grid(columns, rows, nextOpen, nextShut, stones);
        }

        Grid withStone(int cell, boolean stone) {
            long bit = 1L << cell;
            return new Grid(columns, rows, toldOpen, toldShut, stone ? stones | bit : stones & ~bit);
        }

        Grid drained(long opened) {
            return new Grid(columns, rows, toldOpen | opened, toldShut | free & ~opened, stones);
        }

        Grid turned(int how) {
            long nextOpen = 0L;
            long nextShut = 0L;
            long nextStones = 0L;
            for (int i = 0; i < CELLS; i++) {
                int x = i % SIDE;
                int y = i / SIDE;
                int cell = numberOf(x, y, false);
                int right = cellTurned(x, y, how) - (how == 0 ? 2 : 0) + (how == 2 ? 1 : 0);
                int down = cellTurned(x, y, how) - (how == 1 ? 10 : 0) + (how == 2 ? 0 : 1);
                nextStones |= bitMoved(stones, cell, cellTurned(x, y, how));
                nextOpen |= bitMoved(toldOpen, cell, right) | bitMoved(toldOpen, cell + 1, down);
                nextShut |= bitMoved(toldShut, cell, right) | bitMoved(toldShut, cell + 1, down);
            }
            boolean swapped = how == 2;
            return new Grid(swapped ? rows : columns, swapped ? columns : rows, nextOpen, nextShut, nextStones);
        }

        private int cellTurned(int x, int y, int how) {
            if (how == 0) {
                return numberOf(columns - 1 - x, y, false);
            }
            return how == 1 ? numberOf(x, rows - 1 - y, false) : numberOf(y, x, false);
        }

        private static long bitMoved(long set, int from, int to) {
            return (set >>> from & 1L) != 0L ? 1L << to : 0L;
        }

        /** The wet cells, if just these pipes are open. */
        long flooded(long opened) {
            long rights = opened & ALL_CELLS;
            long downs = opened >>> 1 & ALL_CELLS;
            long cells = TOP_ROW & (1L << 2 * columns) - 1L & ~stones;
            for (int i = 0; i < CELLS; i++) {
                long before = cells;
                cells |= (cells & rights) << 2 | cells >>> 2 & rights;
                cells |= (cells & downs) << 10 | cells >>> 10 & downs;
                if (cells == before) {
                    break;
                }
            }
            return cells;
        }

        boolean joinsBy(long opened) {
            return (flooded(opened) & TOP_ROW << 10 * (rows - 1)) != 0L;
        }
    }

    /** What was kept of a grid, so that a later one can be compared with it. */
    private static final class Kept {
        final long[] joining = new long[STRIDE];
        boolean isThere;
        int free;
        int half;

        void take(int newFree, int newHalf, long[] newJoining) {
            for (int k = 0; k < STRIDE && k < newJoining.length; k++) {
                joining[k] = newJoining[k];
            }
            free = newFree;
            half = newHalf;
            isThere = true;
        }

        /** Half parted by the free pipes, as a fraction: 1 / 0 stands for none, which is more than any. */
        static int upper(int free, int half) {
            if (free == 0) {
                return 0;
            }
            return half == NONE ? 1 : half;
        }

        static int lower(int free, int half) {
            if (free == 0) {
                return 1;
            }
            return half == NONE ? 0 : free;
        }
    }

    /** The tape's bytes, and where in them the reader is. */
    private static final class Text {
        final int[] bytes = new int[MOST_BYTES];
        int length;
        int at;
        int began;
        int fault = NONE;

        void append(int four) {
            for (int shift = 24; shift >= 0; shift -= 8) {
                if (length < bytes.length) {
                    bytes[length] = four >>> shift & 255;
                    length++;
                }
            }
        }

        void restart() {
            at = 0;
            began = 0;
            fault = NONE;
        }

        private void skipBlanks() {
            for (int i = at; i < length; i++) {
                if (bytes[i] != 9 && bytes[i] != 10 && bytes[i] != 32) {
                    break;
                }
                at = i + 1;
            }
        }

        /** Whether nothing but blanks comes any more. */
        boolean isAtEnd() {
            skipBlanks();
            return at >= length;
        }

        /** The bytes from one sign to another that stand here are taken; the answer is how many. */
        private int takeSpan(char from, char to) {
            skipBlanks();
            began = at;
            for (int i = at; i < length; i++) {
                if (bytes[i] < from || bytes[i] > to) {
                    break;
                }
                at = i + 1;
            }
            return at - began;
        }

        /** A number is taken; NONE, if it is wrong. */
        int takeNumber(int least, int most) {
            if (takeSpan('0', '9') == 1) {
                int digit = bytes[began] - '0';
                if (digit >= least && digit <= most) {
                    return digit;
                }
            }
            refuse();
            return NONE;
        }

        void takeWord() {
            takeSpan('a', 'z');
        }

        boolean isWord(String word) {
            if (word.length() != at - began) {
                return false;
            }
            for (int i = 0; i < word.length(); i++) {
                if (bytes[began + i] != word.charAt(i)) {
                    return false;
                }
            }
            return true;
        }

        boolean takeMark() {
            boolean none = isAtEnd();
            began = at;
            if (none || bytes[at] != ';') {
                return refuse();
            }
            at++;
            return true;
        }

        /** The fault is where the latest part begins: always false, so that readers can answer with it. */
        boolean refuse() {
            fault = began;
            return false;
        }
    }

    /** Reads a grid from a text, or tells the text its fault. */
    private static final class Reader {
        final Text text;
        int columns;
        int rows;
        long toldOpen;
        long toldShut;
        long stones;

        Reader(Text text) {
            this.text = text;
        }

        /** The grid; null, if the text is wrong. */
        Grid parse() {
            text.restart();
            boolean right = takeSize();
            for (int i = 0; i < MOST_BYTES && right && !text.isAtEnd(); i++) {
                right = takeLine() && text.takeMark();
            }
            if (!right) {
                return null;
            }
            Grid grid = new Grid(columns, rows, toldOpen, toldShut, stones);
            if (grid.freeCount() > MOST_FREE) {
                text.fault = text.length;
                return null;
            }
            return grid;
        }

        private boolean takeSize() {
            text.takeWord();
            if (!text.isWord("grid")) {
                return text.refuse();
            }
            columns = text.takeNumber(1, SIDE);
            if (columns == NONE) {
                return false;
            }
            rows = text.takeNumber(1, SIDE);
            return rows != NONE && text.takeMark();
        }

        private boolean takeLine() {
            text.takeWord();
            boolean open = text.isWord("open");
            boolean stone = text.isWord("stone");
            if (!open && !stone && !text.isWord("shut")) {
                return text.refuse();
            }
            int x = text.takeNumber(0, columns - 1);
            if (x == NONE) {
                return false;
            }
            int y = text.takeNumber(0, rows - 1);
            if (y == NONE) {
                return false;
            }
            return stone ? takeStone(x, y) : takePipe(x, y, open);
        }

        private boolean takeStone(int x, int y) {
            long bit = 1L << Grid.numberOf(x, y, false);
            if ((stones & bit) != 0L) {
                return text.refuse();
            }
            stones |= bit;
            return true;
        }

        private boolean takePipe(int x, int y, boolean open) {
            text.takeWord();
            boolean down = text.isWord("down");
            if (!down && !text.isWord("right") || !Grid.hasPipe(x, y, down, columns, rows)) {
                return text.refuse();
            }
            long bit = 1L << Grid.numberOf(x, y, down);
            if (((toldOpen | toldShut) & bit) != 0L) {
                return text.refuse();
            }
            if (open) {
                toldOpen |= bit;
            } else {
                toldShut |= bit;
            }
            return true;
        }
    }

    /**
     * All ways in which the cells of a row can be joined to each other and to the water above them, and how
     * each pipe moves one to another. Going cell by cell, a pipe down that is shut cuts its cell off (open, it
     * changes nothing), and a pipe right that is open joins two cells (shut, it changes nothing). Stones count
     * as cells that are joined to nothing.
     */
    private static final class Lattice {
        /** Three bits a cell, the first cell the highest: by rising codes the states are in their order. */
        final int[] codes = new int[STATES];
        final int[] wetCells = new int[STATES];
        final int[] moves = new int[SLOTS * STATES];
        /** The pipes in the order in which water is followed through them. */
        final int[] stepPipe = new int[MOST_PIPES];
        final int[] stepSlot = new int[MOST_PIPES];
        final int[] rowStart = new int[SIDE + 1];
        private final int[] longer = new int[STATES];
        private int columns;
        private int rows;
        int size;
        int steps;

        void fit(int newColumns, int newRows) {
            if (columns == newColumns && rows == newRows) {
                return;
            }
            if (columns != newColumns) {
                columns = newColumns;
                codes[0] = 0;
                size = 1;
                for (int x = 0; x < columns; x++) {
                    addCell(x);
                }
                findWetCells();
                makeMoves();
            }
            rows = newRows;
            makeSteps();
        }

        private void findWetCells() {
            for (int s = 0; s < size; s++) {
                wetCells[s] = 0;
                for (int x = 0; x < columns; x++) {
                    if (label(s, x) == 0) {
                        wetCells[s] |= 1 << x;
                    }
                }
            }
        }

        private void addCell(int x) {
            int made = 0;
            for (int s = 0; s < size; s++) {
                int fresh = greatestBefore(codes[s], x) + 1;
                for (int label = 0; label <= fresh; label++) {
                    if (made < STATES && !crosses(codes[s], x, label)) {
                        longer[made] = codes[s] | label << shiftOf(x);
                        made++;
                    }
                }
            }
            System.arraycopy(longer, 0, codes, 0, made);
            size = made;
        }

        /** Whether a cell that bears this label would be joined across another join of the cells ahead of it. */
        private static boolean crosses(int code, int x, int label) {
            int latest = NONE;
            for (int i = 0; i < x; i++) {
                if (labelIn(code, i) == label) {
                    latest = i;
                }
            }
            if (latest < 0) {
                return false;
            }
            for (int i = latest + 1; i < x; i++) {
                int inner = labelIn(code, i);
                // The water stands ahead of all cells.
                if (inner == 0) {
                    return true;
                }
                for (int j = 0; j < latest; j++) {
                    if (labelIn(code, j) == inner) {
                        return true;
                    }
                }
            }
            return false;
        }

        private void makeMoves() {
            for (int s = 0; s < size; s++) {
                for (int x = 0; x < columns; x++) {
                    moves[x * STATES + s] = indexOf(cutOff(codes[s], x));
                    if (x > 0) {
                        moves[rightSlot(x) * STATES + s] = indexOf(joined(codes[s], x));
                    }
                }
            }
        }

        /** Where the moves by the pipe from cell x - 1 right to cell x stand. */
        private static int rightSlot(int x) {
            return SIDE - 1 + x;
        }

        private int cutOff(int code, int x) {
            return renumbered(code | 7 << shiftOf(x));
        }

        private int joined(int code, int x) {
            int one = labelIn(code, x - 1);
            int other = labelIn(code, x);
            int kept = Math.min(one, other);
            int lost = Math.max(one, other);
            int next = 0;
            for (int i = 0; i < columns; i++) {
                int label = labelIn(code, i);
                next |= (label == lost ? kept : label) << shiftOf(i);
            }
            return renumbered(next);
        }

        /** The same joins with the labels 1, 2, .. as they come first; what is wet stays 0. */
        private int renumbered(int code) {
            int next = 0;
            int fresh = 1;
            int names = 0;
            for (int i = 0; i < columns; i++) {
                int shift = 3 * (SIDE - 1 - i);
                int label = code >>> shift & 7;
                if (label != 0) {
                    if ((names >>> 4 * label & 15) == 0) {
                        names |= fresh << 4 * label;
                        fresh++;
                    }
                    next |= (names >>> 4 * label & 15) << shift;
                }
            }
            return next;
        }

        private int indexOf(int code) {
            int low = 0;
            int high = size - 1;
            for (int i = 0; i < 8 && low < high; i++) {
                int middle = (low + high) / 2;
                if (codes[middle] < code) {
                    low = middle + 1;
                } else {
                    high = middle;
                }
            }
            return low;
        }

        private void makeSteps() {
            steps = 0;
            for (int y = 0; y < rows; y++) {
                rowStart[y] = steps;
                for (int x = 0; x < columns; x++) {
                    if (y > 0) {
                        addStep(Grid.numberOf(x, y - 1, true), x);
                    }
                    if (x > 0) {
                        addStep(Grid.numberOf(x - 1, y, false), rightSlot(x));
                    }
                }
            }
            rowStart[rows] = steps;
        }

        private void addStep(int number, int slot) {
            if (steps < MOST_PIPES) {
                stepPipe[steps] = number;
                stepSlot[steps] = slot;
                steps++;
            }
        }

        /** The state of the top row ahead of all pipes: all is wet but stones. */
        int start(Grid grid) {
            int code = 0;
            int fresh = 1;
            for (int x = 0; x < columns; x++) {
                if (grid.isStone(Grid.numberOf(x, 0, false))) {
                    code |= fresh << shiftOf(x);
                    fresh++;
                }
            }
            return indexOf(code);
        }

        /** Whether a pipe moves states when it is open (right), not when it is shut (down). */
        static boolean movesOpen(int number) {
            return number % 2 == 0;
        }

        /** Whether a pipe that is told so moves each state. */
        static boolean movesAll(int number, int status) {
            return status == (movesOpen(number) ? OPEN : SHUT);
        }

        int moved(int slot, int s) {
            return moves[slot * STATES + s];
        }

        int label(int s, int x) {
            return labelIn(codes[s], x);
        }

        int greatest(int s) {
            return greatestBefore(codes[s], columns);
        }

        private static int greatestBefore(int code, int x) {
            int most = 0;
            for (int i = 0; i < x; i++) {
                most = Math.max(most, labelIn(code, i));
            }
            return most;
        }

        private static int shiftOf(int x) {
            return 3 * (SIDE - 1 - x);
        }

        private static int labelIn(int code, int x) {
            return code >>> 3 * (SIDE - 1 - x) & 7;
        }
    }

    /** By so many open pipes: how many choices lead to each state of each row. */
    private static final class Flow {
        final Lattice lattice;
        final int blocks;
        /** A block a row (the last block serves all rows behind it), in it each state's counts. */
        final long[] counts;
        final long[] totals;
        final int[] freeDownTo = new int[SIDE];
        final long[] joining = new long[STRIDE];
        private Grid grid;
        private int used;

        Flow(Lattice lattice, int blocks) {
            this.lattice = lattice;
            this.blocks = blocks;
            counts = new long[blocks * STATES * STRIDE];
            totals = new long[blocks * STATES];
        }

        void follow(Grid next) {
            if (grid == next) {
                return;
            }
            grid = next;
            used = 0;
            begin();
            for (int row = 0; row < next.rows; row++) {
                enterRow(row);
                for (int i = lattice.rowStart[row]; i < lattice.rowStart[row + 1]; i++) {
                    pass(blockOf(row), i);
                }
                freeDownTo[row] = used;
            }
            for (int k = 0; k < STRIDE; k++) {
                joining[k] = wetWays(next.rows - 1, k);
            }
        }

        private void begin() {
            for (int s = 0; s < lattice.size; s++) {
                totals[s] = 0L;
                for (int k = 0; k < STRIDE; k++) {
                    counts[s * STRIDE + k] = 0L;
                }
            }
            int start = lattice.start(grid);
            totals[start] = 1L;
            counts[start * STRIDE] = 1L;
        }

        private int blockOf(int row) {
            return Math.min(row, blocks - 1);
        }

        private void enterRow(int row) {
            if (row > 0 && row < blocks) {
                int from = (row - 1) * STATES;
                int to = row * STATES;
                System.arraycopy(totals, from, totals, to, lattice.size);
                System.arraycopy(counts, from * STRIDE, counts, to * STRIDE, lattice.size * STRIDE);
            }
        }

        private void pass(int block, int step) {
            int number = lattice.stepPipe[step];
            int slot = lattice.stepSlot[step];
            int first = block * STATES;
            if (!grid.isFree(number)) {
                if (Lattice.movesAll(number, grid.statusOf(number))) {
                    moveAll(first, slot);
                }
            } else if (used < MOST_FREE) {
                doubleUnmoved(first, slot);
                divideMoved(first, slot, Lattice.movesOpen(number));
                used++;
            }
        }

        private void moveAll(int first, int slot) {
            for (int s = 0; s < lattice.size; s++) {
                int to = lattice.moved(slot, s);
                if (to != s && totals[first + s] != 0L) {
                    totals[first + to] += totals[first + s];
                    totals[first + s] = 0L;
                    for (int k = 0; k <= used; k++) {
                        counts[(first + to) * STRIDE + k] += counts[(first + s) * STRIDE + k];
                        counts[(first + s) * STRIDE + k] = 0L;
                    }
                }
            }
        }

        /** A free pipe that does not move a state leads to it both open and shut. */
        private void doubleUnmoved(int first, int slot) {
            for (int s = 0; s < lattice.size; s++) {
                if (lattice.moved(slot, s) == s && totals[first + s] != 0L) {
                    totals[first + s] *= 2L;
                    int at = (first + s) * STRIDE;
                    for (int k = used + 1; k > 0; k--) {
                        counts[at + k] += counts[at + k - 1];
                    }
                }
            }
        }

        /** What a free pipe moves goes there by one of its chances, and stays by the other; moved again, it stays. */
        private void divideMoved(int first, int slot, boolean movesOpen) {
            int goes = movesOpen ? 1 : 0;
            for (int s = 0; s < lattice.size; s++) {
                int to = lattice.moved(slot, s);
                if (to != s && totals[first + s] != 0L) {
                    totals[first + to] += totals[first + s];
                    int from = (first + s) * STRIDE;
                    int there = (first + to) * STRIDE + goes;
                    for (int k = used; k >= 0; k--) {
                        counts[there + k] += counts[from + k];
                        counts[from + k + 1 - goes] = counts[from + k];
                    }
                    if (!movesOpen) {
                        counts[from] = 0L;
                    }
                }
            }
        }

        int freeTo(int row) {
            return freeDownTo[row];
        }

        long waysTo(int row, int s, int k) {
            return counts[(blockOf(row) * STATES + s) * STRIDE + k];
        }

        long totalOf(int row, int s) {
            return totals[blockOf(row) * STATES + s];
        }

        long wetWays(int row, int k) {
            long sum = 0L;
            for (int s = 0; s < lattice.size; s++) {
                if (lattice.wetCells[s] != 0) {
                    sum += waysTo(row, s, k);
                }
            }
            return sum;
        }

        int stateCount(int row) {
            int found = 0;
            for (int s = 0; s < lattice.size; s++) {
                if (totalOf(row, s) > 0L) {
                    found++;
                }
            }
            return found;
        }

        /** The k-th state that some choice leads to; NONE, if there is none. */
        int stateAt(int row, int k) {
            int found = 0;
            for (int s = 0; s < lattice.size; s++) {
                if (totalOf(row, s) > 0L) {
                    if (found == k) {
                        return s;
                    }
                    found++;
                }
            }
            return NONE;
        }
    }

    /**
     * With what chance each free pipe decides, over b to the number of the other free pipes: the weight of
     * what comes ahead of the pipe times that of what joins behind it, open and not shut.
     */
    private static final class Deciders {
        final Lattice lattice;
        final long[] chances = new long[NUMBERS];
        /** The weights of the states ahead of each free pipe. */
        private final long[] ahead = new long[MOST_FREE * STATES];
        private final long[] weights = new long[STATES];
        private Grid grid;
        private int openWeight;
        private int shutWeight;

        Deciders(Lattice lattice) {
            this.lattice = lattice;
        }

        void weigh(Grid next, int a, int b) {
            if (grid == next && openWeight == a && shutWeight == b - a) {
                return;
            }
            grid = next;
            openWeight = a;
            shutWeight = b - a;
            goDown();
            goUp();
        }

        private void goDown() {
            for (int s = 0; s < lattice.size; s++) {
                weights[s] = 0L;
            }
            weights[lattice.start(grid)] = 1L;
            int used = 0;
            for (int i = 0; i < lattice.steps; i++) {
                int number = lattice.stepPipe[i];
                int slot = lattice.stepSlot[i];
                if (!grid.isFree(number)) {
                    if (Lattice.movesAll(number, grid.statusOf(number))) {
                        spread(slot, 1L, 0L);
                    }
                } else if (used < MOST_FREE) {
                    System.arraycopy(weights, 0, ahead, used * STATES, lattice.size);
                    used++;
                    spread(slot, goes(number), stays(number));
                }
            }
        }

        private long goes(int number) {
            return Lattice.movesOpen(number) ? openWeight : shutWeight;
        }

        private long stays(int number) {
            return Lattice.movesOpen(number) ? shutWeight : openWeight;
        }

        private void spread(int slot, long goes, long stays) {
            for (int s = 0; s < lattice.size; s++) {
                if (lattice.moved(slot, s) == s) {
                    weights[s] *= goes + stays;
                }
            }
            for (int s = 0; s < lattice.size; s++) {
                int to = lattice.moved(slot, s);
                if (to != s) {
                    weights[to] += weights[s] * goes;
                    weights[s] *= stays;
                }
            }
        }

        private void goUp() {
            for (int s = 0; s < lattice.size; s++) {
                weights[s] = lattice.wetCells[s] != 0 ? 1L : 0L;
            }
            int left = grid.freeCount();
            for (int i = lattice.steps - 1; i >= 0; i--) {
                int number = lattice.stepPipe[i];
                int slot = lattice.stepSlot[i];
                if (!grid.isFree(number)) {
                    if (Lattice.movesAll(number, grid.statusOf(number))) {
                        gather(slot, 1L, 0L);
                    }
                } else if (left > 0 && left <= MOST_FREE) {
                    left--;
                    chances[number] = decided(slot, left * STATES, Lattice.movesOpen(number));
                    gather(slot, goes(number), stays(number));
                }
            }
        }

        private long decided(int slot, int first, boolean movesOpen) {
            long sum = 0L;
            for (int s = 0; s < lattice.size; s++) {
                long gain = weights[lattice.moved(slot, s)] - weights[s];
                sum += ahead[first + s] * (movesOpen ? gain : -gain);
            }
            return sum;
        }

        private void gather(int slot, long goes, long stays) {
            for (int s = 0; s < lattice.size; s++) {
                int to = lattice.moved(slot, s);
                if (to != s) {
                    weights[s] = weights[s] * stays + weights[to] * goes;
                }
            }
            for (int s = 0; s < lattice.size; s++) {
                if (lattice.moved(slot, s) == s) {
                    weights[s] *= goes + stays;
                }
            }
        }
    }

    /** Every choice of few free pipes, tried: 0, if it does not join; 1, if it does; 2, if it just does. */
    private static final class Trial {
        final Lattice lattice;
        private final int[] found = new int[1 << MOST_TRIED];
        private Grid grid;
        private int size;

        Trial(Lattice lattice) {
            this.lattice = lattice;
        }

        void follow(Grid next) {
            if (grid == next) {
                return;
            }
            grid = next;
            findStates();
            for (int c = 0; c < size; c++) {
                found[c] = lattice.wetCells[found[c]] != 0 ? 1 : 0;
            }
            for (int c = 0; c < size; c++) {
                if (found[c] != 0 && needsAll(c)) {
                    found[c] = 2;
                }
            }
        }

        /** For every choice the state of the last row: all choices go down together, pipe by pipe. */
        private void findStates() {
            found[0] = lattice.start(grid);
            size = 1;
            int made = 0;
            for (int i = 0; i < lattice.steps; i++) {
                int number = lattice.stepPipe[i];
                int slot = lattice.stepSlot[i];
                if (grid.isFree(number)) {
                    int bit = bitOf(number);
                    divide(made, bit, slot, Lattice.movesOpen(number));
                    made |= bit;
                } else if (Lattice.movesAll(number, grid.statusOf(number))) {
                    moveAll(made, slot);
                }
            }
        }

        private int bitOf(int number) {
            return 1 << Long.bitCount(grid.free & (1L << number) - 1L);
        }

        private void divide(int made, int bit, int slot, boolean movesOpen) {
            if (size * 2 > found.length) {
                return;
            }
            int choice = 0;
            for (int i = 0; i < size; i++) {
                int stays = found[choice];
                int goes = lattice.moved(slot, stays);
                found[choice] = movesOpen ? stays : goes;
                found[choice | bit] = movesOpen ? goes : stays;
                choice = choice - made & made;
            }
            size *= 2;
        }

        private void moveAll(int made, int slot) {
            int choice = 0;
            for (int i = 0; i < size; i++) {
                found[choice] = lattice.moved(slot, found[choice]);
                choice = choice - made & made;
            }
        }

        private boolean needsAll(int choice) {
            for (int i = 0; i < MOST_TRIED; i++) {
                int bit = 1 << i;
                if ((choice & bit) != 0 && found[choice ^ bit] != 0) {
                    return false;
                }
            }
            return true;
        }

        int joiningAt(int k, int place) {
            int seen = 0;
            for (int c = 0; c < size; c++) {
                if (found[c] != 0 && Integer.bitCount(c) == k) {
                    if (seen == place) {
                        return c;
                    }
                    seen++;
                }
            }
            return NONE;
        }

        int leastCount() {
            int seen = 0;
            for (int c = 0; c < size; c++) {
                if (found[c] == 2) {
                    seen++;
                }
            }
            return seen;
        }

        int leastAt(int k) {
            int seen = 0;
            for (int c = 0; c < size; c++) {
                if (found[c] == 2) {
                    if (seen == k) {
                        return c;
                    }
                    seen++;
                }
            }
            return NONE;
        }
    }
}
