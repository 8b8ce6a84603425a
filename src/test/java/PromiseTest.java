import java.util.NoSuchElementException;

/** Each promise of the document: ordinary inputs, the edges that it names, wrong inputs; answers found by hand. */
public final class PromiseTest {
    private static final Class<?> INDEX = IndexOutOfBoundsException.class;
    private static final Class<?> ARGUMENT = IllegalArgumentException.class;
    private static final Class<?> STATE = IllegalStateException.class;
    private static final Class<?> ELEMENT = NoSuchElementException.class;
    private static final int LEAST = Integer.MIN_VALUE;
    private static final int MOST = Integer.MAX_VALUE;

    private final Check check = new Check();

    public static void main(String[] args) {
        PromiseTest all = new PromiseTest();
        all.newObject();
        all.tape();
        all.read();
        all.faults();
        all.whatTheGridIs();
        all.tell();
        all.put();
        all.turn();
        all.drain();
        all.undo();
        all.joinsBarsChoices();
        all.states();
        all.lastRow();
        all.rowsReached();
        all.tried();
        all.dual();
        all.values();
        all.would();
        all.averages();
        all.leastMeanHalf();
        all.deciders();
        all.fewest();
        all.drawn();
        all.oneByOne();
        all.kept();
        all.written();
        all.counted();
        all.check.finish("promises");
    }

    private void due(String what, Object got, Object want) { check.due(what, got, want); }

    private void refused(String what, Class<?> want, java.util.concurrent.Callable<?> call) {
        check.refused(what, want, call);
    }

    /** The joins for 0 open pipes, 1, and so on, one behind the last. */
    private static String joins(WaterGrid g) {
        StringBuilder text = new StringBuilder();
        for (int k = 0; k <= g.count(2); k++) text.append(g.joins(k)).append(' ');
        return text.toString().trim();
    }

    private static String state(WaterGrid g, int row, int k) {
        StringBuilder text = new StringBuilder();
        for (int x = 0; x < g.count(0); x++) text.append(g.state(row, k, x));
        return text.toString();
    }

    private static String fraction(long upper, long lower) { return upper + "/" + lower; }

    // Promise 1
    private void newObject() {
        WaterGrid g = new WaterGrid();
        due("1 NONE", WaterGrid.NONE, -1);
        due("1 columns", g.count(0), 1);
        due("1 rows", g.count(1), 1);
        due("1 free", g.count(2), 0);
        due("1 acts", g.count(6), 0);
        due("1 written", g.count(7), 0);
        due("1 stone", g.stone(0, 0), false);
        due("1 text", Check.written(g), "o\n");
        due("1 tape", g.end(1), false);
    }

    // Promises 2 and 3
    private void tape() {
        WaterGrid g = new WaterGrid();
        for (int i = 1; i <= 20; i++) due("2 feed", g.feed(0x20202020, 0x20202020, 0x20202020, 0x20202020, 0x20202020), 20 * i);
        due("2 full", g.feed(1, 2, 3, 4, 5), -1);
        due("3 nothing came", g.end(401), false);
        due("3 all stay", g.end(400), true);
        due("3 cut", g.end(381), true);
        due("2 one byte too many", g.feed(1, 2, 3, 4, 5), -1);
        due("3 below 0", g.end(-1), false);
        due("3 least", g.end(LEAST), false);
        due("3 more than there are", g.end(382), false);
        due("3 twenty fit", g.end(380), true);
        due("2 just 400", g.feed(0, 0, 0, 0, 0), 400);
        due("3 to nothing", g.end(0), true);
        due("2 from nothing", g.feed(0x67726964, 0x20332032, 0x3b000000, 0, 0), 20);
        due("3 the first bytes alone", g.end(9), true);
        due("4 highest byte first", g.read(), 7);
        due("4 the tape is used up", g.end(1), false);
        g.feed(0xff808182, 0, 0, 0, 0);
        refused("4 bytes above 127", ARGUMENT, g::read);
        due("5 bytes above 127", g.fault(), 0);
        due("4 a wrong text is used up, too", g.feed(0, 0, 0, 0, 0), 20);
    }

    // Promise 4
    private void read() {
        due("4 free pipes", Check.grid("grid 5 3;shut 0 0 down;open 3 2 right;stone 4 1;").count(2), 17);
        due("4 blanks where they need not be", Check.grid("\t\n grid\t2\n2 ;\n\topen 0 1 right ; ").pipe(0, 1, false), 1);
        due("4 no blanks where they need not be", Check.grid("grid2 2;shut0 0right;stone1 1;").count(4), 3);
        due("4 just 24", Check.grid("grid 4 4;").count(2), 24);
        due("4 just 24 by stones", Check.grid("grid 5 4;stone 1 1;stone 3 2;").count(2), 31 - 8);
        WaterGrid g = Check.grid("grid 2 2;");
        g.keep();
        g.tell(0, 0, false, 1);
        g.write();
        Check.feed(g, "grid 2 3;open 0 0 down");
        refused("4 more must come", ARGUMENT, g::read);
        due("4 the old grid stays", g.count(1), 2);
        due("4 its acts stay", g.count(6), 1);
        due("4 what was told stays", g.pipe(0, 0, false), 1);
        Check.feed(g, "grid 2 1;");
        due("4 in its place", g.read(), 1);
        due("4 nothing can be undone", g.undo(), -1);
        due("4 what is kept stays", g.compare(), -1);
        due("4 what is written stays", g.count(7), 12);
        refused("4 an empty tape", ARGUMENT, g::read);
    }

    // Promise 5
    private void faults() {
        due("5 ahead of any", new WaterGrid().fault(), -1);
        fault("grid 2 2;", -1);
        fault("", 0);
        fault("   ", 3);
        fault("grit 2 2;", 0);
        fault(" gridd 2 2;", 1);
        fault("gri", 0);
        fault("xrid 2 2;", 0);
        fault("gridz 2 2;", 0);
        fault("grid 29 2;", 5);
        fault("grid 2 2;xpen 0 0 right;", 9);
        fault("grid 2 2;xhut 0 0 right;", 9);
        fault("grid 2 2;xtone 0 0;", 9);
        fault("grid 2 2;open 0 0 xight;", 18);
        fault("grid 2 2;open 0 0 xown;", 18);
        fault("Grid 2 2;", 0);
        fault("grid", 4);
        fault("grid ;", 5);
        fault("grid 0 2;", 5);
        fault("grid 2 6;", 7);
        fault("grid 02 2;", 5);
        fault("grid 2 2 2;", 9);
        fault("grid 2 2", 8);
        fault("grid 2 2  ", 10);
        fault("grid 2 2;;", 9);
        fault("grid 2 2;\r", 9);
        fault("grid 2 2;grid 2 2;", 9);
        fault("grid 2 2;opens 0 0 right;", 9);
        fault("grid 2 2;open", 13);
        fault("grid 2 2;open right", 14);
        fault("grid 2 2;open 2 0 down;", 14);
        fault("grid 2 2;open 0 2 right;", 16);
        fault("grid 2 2;open 0 00 right;", 16);
        fault("grid 2 2;open 0 0 left;", 18);
        fault("grid 2 2;open 0 0 righ", 18);
        fault("grid 2 2;open 0 0;", 17);
        fault("grid 2 2;open 0 0 right", 23);
        fault("grid 2 2;open 0 0 right 0;", 24);
        fault("grid 2 2;open 1 0 right;", 18);
        fault("grid 2 2;shut 0 1 down;", 18);
        fault("grid 2 2;open 0 0 down;open 0 0 right;open 0 0 down;", 47);
        fault("grid 2 2;shut 0 0 down;open 0 0 down;", 32);
        fault("grid 2 2;stone 1 1;stone 1 1;", 27);
        fault("grid 2 2;stone 1 1 ;stone 0 1;", -1);
        fault("grid 2 2;stone 1 1 down;", 19);
        fault("grid 2 2;stone 0 0;open 0 0 down;shut 0 0 right;", -1);
        fault("grid 5 4;", 9);
        fault("grid 5 5;  ", 11);
        WaterGrid g = new WaterGrid();
        Check.feed(g, "grid 9 9;");
        refused("5 wrong", ARGUMENT, g::read);
        due("5 it stays", g.fault(), 5);
        due("5 through calls", g.joins(0), 1);
        Check.feed(g, "grid 1 1;");
        g.read();
        due("5 none of the latest", g.fault(), -1);
    }

    private void fault(String text, int want) { due("5 fault of " + text, Check.faultOf(text), want); }

    // Promises 6 and 7
    private void whatTheGridIs() {
        WaterGrid g = Check.grid("grid 3 2;open 0 0 right;shut 0 0 down;open 2 0 down;stone 2 1;");
        due("6 open", g.pipe(0, 0, false), 1);
        due("6 shut", g.pipe(0, 0, true), 2);
        due("6 free", g.pipe(1, 0, false), 0);
        due("6 by a stone", g.pipe(2, 0, true), 2);
        due("6 by a stone at its right", g.pipe(1, 1, false), 2);
        refused("6 right of the last", INDEX, () -> g.pipe(2, 0, false));
        refused("6 below the last", INDEX, () -> g.pipe(0, 1, true));
        refused("6 no cell", INDEX, () -> g.pipe(-1, 0, false));
        refused("6 no row", INDEX, () -> g.pipe(0, -1, true));
        refused("6 far", INDEX, () -> g.pipe(MOST, LEAST, true));
        due("7 stone", g.stone(2, 1), true);
        due("7 none", g.stone(1, 1), false);
        refused("7 no column", INDEX, () -> g.stone(3, 0));
        refused("7 no row", INDEX, () -> g.stone(0, 2));
        refused("7 below 0", INDEX, () -> g.stone(0, -1));
    }

    // Promise 8
    private void tell() {
        WaterGrid g = Check.grid("grid 3 2;open 0 0 right;stone 0 0;");
        due("8 what was told, not what it is", g.tell(0, 0, false, 2), 1);
        due("8 told again", g.tell(0, 0, false, 0), 2);
        due("8 shut by the stone yet", g.pipe(0, 0, false), 2);
        due("8 free before", g.tell(1, 0, false, 1), 0);
        due("8 open now", g.pipe(1, 0, false), 1);
        due("8 nothing changes", g.tell(1, 0, false, 1), 1);
        due("8 each is an act", g.count(6), 4);
        refused("8 no pipe first", INDEX, () -> g.tell(2, 0, false, 9));
        refused("8 how", ARGUMENT, () -> g.tell(1, 0, false, 3));
        refused("8 how below", ARGUMENT, () -> g.tell(1, 0, false, -1));
        due("8 no act where it throws", g.count(6), 4);
        WaterGrid full = Check.grid("grid 4 5;open 0 0 down;open 1 0 down;open 2 0 down;open 3 0 down;"
                + "open 0 1 down;open 1 1 down;open 2 1 down;");
        due("8 full", full.count(2), 24);
        refused("8 a 25th", STATE, () -> full.tell(0, 0, true, 0));
        refused("8 how ahead of the 25th", ARGUMENT, () -> full.tell(0, 0, true, 4));
        due("8 unchanged", full.pipe(0, 0, true), 1);
        due("8 free as it is", full.tell(0, 0, false, 0), 0);
        full.put(0, 0, true);
        due("8 free below a stone is none", full.tell(0, 0, true, 0), 1);
        due("8 count", full.count(2), 23);
    }

    // Promise 9
    private void put() {
        WaterGrid g = Check.grid("grid 2 2;open 0 0 down;");
        due("9 was none", g.put(0, 0, true), false);
        due("9 is one", g.stone(0, 0), true);
        due("9 shut", g.pipe(0, 0, true), 2);
        due("9 again", g.put(0, 0, true), true);
        due("9 no stone", g.put(0, 0, false), true);
        due("9 as told yet", g.pipe(0, 0, true), 1);
        due("9 free again", g.pipe(0, 0, false), 0);
        due("9 three acts", g.count(6), 3);
        refused("9 no cell", INDEX, () -> g.put(2, 0, true));
        WaterGrid full = Check.grid("grid 4 5;stone 1 1;stone 2 3;");
        due("9 23 free", full.count(2), 23);
        refused("9 four more", STATE, () -> full.put(1, 1, false));
        due("9 unchanged", full.stone(1, 1), true);
        due("9 no act", full.count(6), 0);
        refused("9 no cell ahead of it", INDEX, () -> full.put(4, 1, false));
    }

    // Promise 10
    private void turn() {
        String text = "grid 3 2;open 0 0 right;shut 0 0 down;open 2 0 down;stone 2 1;";
        due("10 ahead", Check.written(Check.grid(text)), "o-o.o\n  .  \no.o #\n");
        due("10 left and right", turned(text, 0), "o.o-o\n  .  \n# o.o\n");
        due("10 top and bottom", turned(text, 1), "o.o #\n  .  \no-o.o\n");
        due("10 columns and rows", turned(text, 2), "o o\n| .\no.o\n.  \no #\n");
        WaterGrid g = Check.grid(text);
        g.turn(2);
        due("10 columns", g.count(0), 2);
        due("10 rows", g.count(1), 3);
        due("10 an act", g.count(6), 1);
        g.put(1, 2, false);
        due("10 what was told below a stone goes along", g.pipe(0, 2, false), 1);
        refused("10 another", ARGUMENT, () -> { g.turn(3); return 0; });
        refused("10 below", ARGUMENT, () -> { g.turn(-1); return 0; });
        g.undo();
        g.undo();
        due("10 undone", g.count(0), 3);
    }

    private static String turned(String text, int how) {
        WaterGrid g = Check.grid(text);
        g.turn(how);
        return Check.written(g);
    }

    // Promise 11
    private void drain() {
        WaterGrid g = Check.grid("grid 2 2;");
        // Seed 1 draws 16838, 5758, 10113, 17515: open are those that are even.
        due("11 joins", g.drain(1, 1, 2), true);
        due("11 told", Check.written(g), "o-o\n|  \no o\n");
        due("11 none is free", g.count(2), 0);
        due("11 an act", g.count(6), 1);
        due("11 undone", g.undo(), 0);
        due("11 free again", g.count(2), 4);
        due("11 all shut", g.drain(1, 0, 3), false);
        due("11 nothing more to draw", g.drain(1, 6, 6), false);
        due("11 an act yet", g.count(6), 2);
        refused("11 chance", ARGUMENT, () -> g.drain(1, 1, 0));
        refused("11 chance", ARGUMENT, () -> g.drain(1, 1, 7));
        refused("11 chance", ARGUMENT, () -> g.drain(1, 3, 2));
        refused("11 chance", ARGUMENT, () -> g.drain(1, -1, 2));
        WaterGrid stony = Check.grid("grid 2 2;stone 0 0;");
        stony.drain(7, 1, 1);
        stony.put(0, 0, false);
        due("11 a stone's pipes are not drawn", stony.count(2), 2);
    }

    // Promise 12
    private void undo() {
        WaterGrid g = Check.grid("grid 2 2;");
        due("12 none", g.undo(), -1);
        for (int i = 0; i < 18; i++) g.tell(0, 0, false, i == 1 ? 2 : 1);
        due("12 sixteen are kept", g.count(6), 16);
        due("12 one less", g.undo(), 15);
        for (int i = 14; i >= 0; i--) due("12 less", g.undo(), i);
        due("12 the grid ahead of the third", g.pipe(0, 0, false), 2);
        due("12 no more", g.undo(), -1);
        g.put(1, 1, true);
        g.turn(2);
        g.drain(3, 1, 2);
        g.undo();
        g.undo();
        due("12 put, turned, drained", Check.written(g), "o o\n.  \no #\n");
    }

    // Promises 13 to 15
    private void joinsBarsChoices() {
        WaterGrid g = Check.grid("grid 2 2;");
        due("13 two by two", joins(g), "0 2 5 4 1");
        due("13 no such k", g.joins(5) + g.joins(-1) + g.joins(LEAST) + g.joins(MOST) + g.joins(24), 0);
        due("13 a column", joins(Check.grid("grid 1 3;")), "0 0 1");
        due("13 open", joins(Check.grid("grid 1 3;open 0 0 down;")), "0 1");
        due("13 one row", joins(Check.grid("grid 3 1;")), "1 2 1");
        due("13 one row of stones", joins(Check.grid("grid 2 1;stone 0 0;stone 1 0;")), "0");
        due("13 a stone in the way", joins(Check.grid("grid 1 3;stone 0 1;")), "0");
        due("13 by two of four", joins(Check.grid("grid 2 3;shut 0 1 down;shut 1 0 down;open 0 0 down;")), "0 0 1 2 1");
        due("13 water goes up again", joins(Check.grid("grid 3 4;open 0 0 down;open 0 1 down;open 0 2 right;open 1 1 down;"
                + "open 1 1 right;open 2 1 down;shut 0 2 down;shut 1 2 down;shut 1 0 down;shut 2 0 down;shut 0 1 right;"
                + "shut 1 2 right;shut 0 0 right;shut 1 0 right;")), "0 1 2 1");
        due("14 two by two", g.bars(0) + " " + g.bars(1) + " " + g.bars(2) + " " + g.bars(3) + " " + g.bars(4), "0 0 1 2 1");
        due("14 no such k", g.bars(5) + g.bars(-1) + g.bars(LEAST) + g.bars(MOST), 0);
        due("14 one row", Check.grid("grid 3 1;").bars(0) + Check.grid("grid 3 1;").bars(2), 0);
        due("14 stones bar", Check.grid("grid 1 3;stone 0 1;").bars(0), 1);
        due("14 any one of a column", Check.grid("grid 1 3;").bars(1), 2);
        due("15 choices", g.choices(2), 6);
        due("15 all", g.choices(4) + g.choices(0), 2);
        due("15 no such k", g.choices(5) + g.choices(-1) + g.choices(MOST), 0);
        due("15 most", Check.grid("grid 4 4;").choices(12), 2704156);
    }

    // Promises 16 to 18 and 25
    private void states() {
        WaterGrid g = Check.grid("grid 2 2;");
        due("16 top", g.states(0), 1);
        due("16 below", g.states(1), 5);
        refused("16 no row", INDEX, () -> g.states(2));
        refused("16 no row", INDEX, () -> g.states(-1));
        due("17 top", state(g, 0, 0), "00");
        for (int k = 0; k < 5; k++) due("17 below", state(g, 1, k), "00 01 10 11 12".split(" ")[k]);
        refused("17 no cell first", INDEX, () -> g.state(1, 9, 2));
        refused("17 no row first", INDEX, () -> g.state(2, 9, 0));
        refused("17 behind", ELEMENT, () -> g.state(1, 5, 0));
        refused("17 below 0", ELEMENT, () -> g.state(1, -1, 0));
        due("18 both wet", g.ways(1, 0, 2) + " " + g.ways(1, 0, 3) + " " + g.ways(1, 0, 4), "3 4 1");
        due("18 apart", g.ways(1, 4, 0) + " " + g.ways(1, 4, 1), "1 1");
        due("18 no such n", g.ways(1, 0, 5) + g.ways(1, 0, -1) + g.ways(1, 0, MOST), 0);
        refused("18 no row", INDEX, () -> g.ways(2, 0, 0));
        refused("18 no state", ELEMENT, () -> g.ways(1, 5, 0));
        refused("18 no state", ELEMENT, () -> g.ways(0, 1, 0));
        WaterGrid stony = Check.grid("grid 5 2;stone 1 1;stone 3 1;open 0 0 down;shut 2 0 down;");
        due("16 stones", stony.states(1), 2);
        due("17 stones are 9, numbers go on", state(stony, 1, 0) + " " + state(stony, 1, 1), "09190 09192");
        due("17 a stone ahead of all", state(Check.grid("grid 3 2;stone 0 1;shut 1 0 down;shut 2 0 down;"), 1, 1), "912");
        WaterGrid top = Check.grid("grid 3 2;stone 1 0;");
        due("17 a stone at the top", state(top, 0, 0), "090");
        due("16 all of three cells but those that cross", Check.grid("grid 3 3;").states(2), 14);
        due("16 five columns", Check.grid("grid 5 3;").states(1), Check.grid("grid 5 2;").states(1));
        due("25 place", g.likeliest(1, false), 0);
        due("25 choices", g.likeliest(1, true), 8);
        due("25 of several the first", Check.grid("grid 1 2;").likeliest(1, false), 0);
        due("25 how many of several", Check.grid("grid 1 2;").likeliest(1, true), 1);
        due("25 behind one of one choice", Check.grid("grid 1 3;").likeliest(2, false), 1);
        due("25 another", Check.grid("grid 2 2;shut 0 0 down;shut 1 0 down;shut 0 1 right;").likeliest(1, true), 2);
        due("25 not the first", Check.grid("grid 2 3;shut 0 1 down;").likeliest(2, false), 2);
        due("25 22 choices each to 11 and to 12", Check.grid("grid 2 3;shut 0 1 down;").likeliest(2, true), 22);
        refused("25 no row", INDEX, () -> g.likeliest(2, true));
    }

    // Promises 19 and 22
    private void lastRow() {
        WaterGrid g = Check.grid("grid 2 2;");
        due("19 both", g.wet(3, 2), 3);
        due("19 one", g.wet(1, 1) + " " + g.wet(2, 1), "1 1");
        due("19 none", g.wet(0, 0) + " " + g.wet(0, 1) + " " + g.wet(0, 2), "1 2 1");
        due("19 no such k", g.wet(3, 5) + g.wet(3, -1) + g.wet(3, MOST), 0);
        refused("19 no set", ARGUMENT, () -> g.wet(4, 0));
        refused("19 no set", ARGUMENT, () -> g.wet(-1, 0));
        due("19 a stone is not wet", Check.grid("grid 2 1;stone 0 0;").wet(3, 0), 0);
        due("19 but for the stone", Check.grid("grid 2 1;stone 0 0;").wet(2, 0), 1);
        due("22 pair", g.pair(0, 1, 1) + " " + g.pair(1, 0, 2) + " " + g.pair(0, 1, 4), "1 4 1");
        due("22 one twice", g.pair(1, 1, 2), 6);
        due("22 no such k", g.pair(0, 0, 5) + g.pair(0, 0, -1) + g.pair(0, 1, MOST), 0);
        refused("22 no cell", INDEX, () -> g.pair(0, 2, 0));
        refused("22 no cell", INDEX, () -> g.pair(-1, 0, 0));
        WaterGrid stony = Check.grid("grid 3 2;stone 1 1;stone 2 1;");
        due("22 a stone twice", stony.pair(1, 1, 0), 0);
        due("22 two stones", stony.pair(1, 2, 0), 0);
        due("22 one stone", stony.pair(0, 1, 0) + stony.pair(2, 0, 1), 0);
    }

    // Promises 20 and 21
    private void rowsReached() {
        WaterGrid g = Check.grid("grid 2 3;");
        due("20 top", g.reaches(0, 0) + " " + g.reaches(0, 1) + " " + g.reaches(0, 2), "1 1 0");
        due("20 second", g.reaches(1, 0) + " " + g.reaches(1, 1) + " " + g.reaches(1, 4), "0 2 1");
        due("20 last", g.reaches(2, 3), g.joins(3));
        due("20 no such k", g.reaches(1, 5) + g.reaches(1, -1) + g.reaches(1, MOST), 0);
        refused("20 no row", INDEX, () -> g.reaches(3, 0));
        due("20 only from above", Check.grid("grid 2 3;shut 1 0 down;shut 0 0 down;").reaches(1, 0), 0);
        due("20 not from below", Check.grid("grid 2 3;open 0 0 down;open 0 1 down;open 0 2 right;open 1 1 down;shut 0 1 right;"
                + "shut 1 0 down;").wet(3, 0), 1);
        due("21 none", g.parted(1, 0), 8);
        due("21 one", g.parted(1, 1), 6);
        due("21 two", g.parted(1, 2), 2);
        due("21 no such n", g.parted(1, 3) + g.parted(1, -1) + g.parted(1, MOST) + g.parted(1, 9), 0);
        due("21 stones do not count", Check.grid("grid 3 2;stone 1 1;").parted(1, 2), 4);
        due("21 only stones", Check.grid("grid 2 2;stone 0 1;stone 1 1;").parted(1, 0), 2);
        refused("21 no row", INDEX, () -> g.parted(-1, 0));
    }

    // Promises 23 and 24
    private void tried() {
        WaterGrid g = Check.grid("grid 2 2;");
        due("23 one open", g.tried(1, 0) + " " + g.tried(1, 1) + " " + g.tried(1, 2), "2 4 -1");
        due("23 two open", g.tried(2, 0) + " " + g.tried(2, 1) + " " + g.tried(2, 4), "3 5 12");
        due("23 below 0", g.tried(1, -1), -1);
        due("23 no such k", g.tried(5, 0) + " " + g.tried(-1, 0), "-1 -1");
        due("24 how many", g.just(-1), 2);
        due("24 each", g.just(0) + " " + g.just(1) + " " + g.just(2), "2 4 -1");
        due("24 below NONE", g.just(-2) + " " + g.just(LEAST), "-1 -1");
        due("24 with nothing open", Check.grid("grid 1 2;open 0 0 down;").just(0), 0);
        WaterGrid twelve = Check.grid("grid 3 3;");
        due("23 twelve are free", twelve.tried(12, 0), 4095);
        due("24 twelve are free", twelve.just(-1), 9);
        WaterGrid more = Check.grid("grid 2 5;");
        due("23 thirteen", more.count(2), 13);
        refused("23 more than 12", STATE, () -> more.tried(-1, -1));
        refused("24 more than 12", STATE, () -> more.just(-1));
    }

    // Promises 26 and 27
    private void dual() {
        WaterGrid g = Check.grid("grid 2 3;open 0 0 down;shut 1 0 down;open 0 1 right;shut 0 2 right;");
        due("26 parted always", g.between(0, 0, true), 2);
        due("26 never", g.between(0, 1, true), 1);
        due("26 by chance", g.between(1, 0, true) + g.between(1, 1, true), 0);
        due("26 by the pipe right of the row between", g.between(0, 1, false), 2);
        due("26 nothing at the left", g.between(0, 0, false), 2);
        due("26 nothing at the right", g.between(0, 2, false), 2);
        g.tell(0, 1, false, 2);
        due("26 never", g.between(0, 1, false), 1);
        g.tell(0, 1, false, 0);
        due("26 by chance", g.between(0, 1, false), 0);
        g.put(0, 0, true);
        due("26 a stone's pipe", g.between(0, 0, true), 1);
        refused("26 none below", INDEX, () -> g.between(0, 2, true));
        refused("26 none beyond", INDEX, () -> g.between(1, 0, false));
        refused("26 no place", INDEX, () -> g.between(2, 0, true));
        refused("26 no place", INDEX, () -> g.between(-1, 0, false));
        refused("26 no place", INDEX, () -> g.between(0, -1, true));
        refused("26 no place", INDEX, () -> g.between(0, 3, false));
        refused("26 far", INDEX, () -> g.between(MOST, 0, false));
        refused("26 one row", INDEX, () -> Check.grid("grid 3 1;").between(0, 0, true));
        due("27 a column of one pipe", Check.grid("grid 1 2;").alike(), true);
        due("27 two by two", Check.grid("grid 2 2;").alike(), false);
        due("27 like its dual", Check.grid("grid 2 3;shut 0 0 right;shut 0 2 right;").alike(), true);
        due("27 one cell", new WaterGrid().alike(), false);
    }

    // Promises 28 and 29
    private void values() {
        WaterGrid g = Check.grid("grid 2 2;");
        due("28 half", fraction(g.value(1, 2, false), g.value(1, 2, true)), "3/4");
        due("28 third", fraction(g.value(1, 3, false), g.value(1, 3, true)), "5/9");
        due("28 not in lowest terms", fraction(g.value(2, 6, false), g.value(2, 6, true)), "5/9");
        due("28 never open", fraction(g.value(0, 6, false), g.value(0, 6, true)), "0/1");
        due("28 always open", fraction(g.value(6, 6, false), g.value(6, 6, true)), "1/1");
        due("28 five of six", fraction(g.value(5, 6, false), g.value(5, 6, true)), "35/36");
        due("29 third", fraction(g.barred(1, 3, false), g.barred(1, 3, true)), "4/9");
        due("29 five of six", fraction(g.barred(5, 6, false), g.barred(5, 6, true)), "1/36");
        due("29 never open", fraction(g.barred(0, 1, false), g.barred(0, 1, true)), "1/1");
        WaterGrid row = Check.grid("grid 2 1;stone 0 0;stone 1 0;");
        due("29 one row", fraction(row.barred(1, 2, false), row.barred(1, 2, true)), "0/1");
        for (int[] none : new int[][] {{0, 0}, {-1, 2}, {3, 2}, {1, 7}, {1, -1}, {LEAST, MOST}, {0, LEAST}}) {
            refused("28 chance", ARGUMENT, () -> g.value(none[0], none[1], true));
            refused("29 chance", ARGUMENT, () -> g.barred(none[0], none[1], false));
        }
        WaterGrid free = Check.grid("grid 4 4;");
        due("28 sure", fraction(free.value(6, 6, false), free.value(6, 6, true)), "1/1");
        due("29 complement", free.value(1, 6, false) + free.barred(1, 6, false), free.value(1, 6, true));
    }

    // Promise 30
    private void would() {
        WaterGrid g = Check.grid("grid 2 2;open 0 1 right;");
        due("30 open", fraction(g.would(0, 0, true, 1, 1, 3, false), g.would(0, 0, true, 1, 1, 3, true)), "1/1");
        due("30 shut", fraction(g.would(0, 0, true, 2, 1, 3, false), g.would(0, 0, true, 2, 1, 3, true)), "1/3");
        due("30 free", fraction(g.would(0, 0, true, 0, 1, 3, false), g.would(0, 0, true, 0, 1, 3, true)), "5/9");
        due("30 open, all others shut", g.would(0, 0, true, 1, 0, 3, false), 1);
        due("30 shut, all others open", g.would(0, 0, true, 2, 6, 6, false), 1);
        due("30 nothing is told", g.count(2) + g.count(6), 3);
        refused("30 no pipe first", INDEX, () -> g.would(1, 0, false, 5, 9, 9, true));
        refused("30 chance ahead of not free", ARGUMENT, () -> g.would(0, 1, false, 1, 3, 2, true));
        refused("30 how ahead of not free", ARGUMENT, () -> g.would(0, 1, false, 3, 1, 2, true));
        refused("30 how", ARGUMENT, () -> g.would(0, 0, true, -1, 1, 2, true));
        refused("30 not free", STATE, () -> g.would(0, 1, false, 1, 1, 2, true));
        g.put(0, 0, true);
        refused("30 not free by a stone", STATE, () -> g.would(0, 0, true, 1, 1, 2, true));
    }

    // Promises 31 and 32
    private void averages() {
        WaterGrid g = Check.grid("grid 2 2;");
        due("31 half", fraction(g.wetness(1, 2, false), g.wetness(1, 2, true)), "5/4");
        due("31 sure", fraction(g.wetness(5, 5, false), g.wetness(5, 5, true)), "2/1");
        due("31 stones", Check.grid("grid 3 1;stone 1 0;").wetness(1, 2, false), 2);
        due("32 half", fraction(g.depth(1, 2, false), g.depth(1, 2, true)), "7/4");
        due("32 never", fraction(g.depth(0, 5, false), g.depth(0, 5, true)), "1/1");
        WaterGrid column = Check.grid("grid 1 3;");
        due("32 a column", fraction(column.depth(1, 3, false), column.depth(1, 3, true)), "13/9");
        due("32 no cell at all", Check.grid("grid 1 1;stone 0 0;").depth(1, 2, false), 0);
        for (int[] none : new int[][] {{0, 0}, {-1, 2}, {3, 2}, {1, 6}, {6, 6}, {1, 7}, {1, LEAST}}) {
            refused("31 chance", ARGUMENT, () -> g.wetness(none[0], none[1], true));
            refused("32 chance", ARGUMENT, () -> g.depth(none[0], none[1], false));
        }
    }

    // Promises 33 to 35
    private void leastMeanHalf() {
        WaterGrid g = Check.grid("grid 2 2;");
        due("33 all", g.least(1, 1), 3);
        due("33 none", g.least(0, 5), 0);
        due("33 five of six", g.least(5, 6), 2);
        due("33 just more", g.least(84, 100), 3);
        due("33 half", g.least(50, 100), 1);
        for (int[] none : new int[][] {{1, 0}, {2, 1}, {-1, 5}, {1, 101}, {0, -1}, {LEAST, 1}}) {
            refused("33 parts", ARGUMENT, () -> g.least(none[0], none[1]));
        }
        WaterGrid never = Check.grid("grid 1 3;shut 0 0 down;");
        due("33 never", never.least(1, 100), -1);
        due("33 nothing is asked", never.least(0, 1), 0);
        due("34 mean", fraction(g.mean(false), g.mean(true)), "5/3");
        due("34 at once", fraction(new WaterGrid().mean(false), new WaterGrid().mean(true)), "0/1");
        due("34 never", never.mean(false) + " " + never.mean(true), "-1 -1");
        WaterGrid column = Check.grid("grid 1 4;");
        due("34 all", fraction(column.mean(false), column.mean(true)), "3/1");
        WaterGrid one = Check.grid("grid 3 2;shut 0 0 down;shut 2 0 down;");
        due("34 one of five", fraction(one.mean(false), one.mean(true)), "3/1");
        due("35 half", g.half(), 1);
        due("35 never", never.half(), -1);
        due("35 at once", new WaterGrid().half(), 0);
        due("35 all", column.half(), 3);
    }

    // Promises 36 to 38
    private void deciders() {
        WaterGrid g = Check.grid("grid 2 2;");
        due("36 down", g.decides(0, 0, true, 0) + " " + g.decides(0, 0, true, 1) + " " + g.decides(0, 0, true, 2)
                + " " + g.decides(0, 0, true, 3), "1 2 1 0");
        due("36 right", g.decides(0, 0, false, 0) + g.decides(0, 1, false, 1), 0);
        due("36 no such k", g.decides(0, 0, true, 4) + g.decides(0, 0, true, -1) + g.decides(0, 0, true, MOST)
                + g.decides(0, 0, true, 23) + g.decides(0, 0, true, 24), 0);
        refused("36 no pipe", INDEX, () -> g.decides(1, 1, true, 0));
        due("37 of several the least number", g.leader(1, 2), 1);
        due("37 none decides", Check.grid("grid 2 1;").leader(1, 2), 0);
        due("37 no pipe is free", new WaterGrid().leader(1, 2), -1);
        due("37 the narrow one", Check.grid("grid 2 3;shut 1 1 down;").leader(1, 2), 11);
        due("37 all others are shut", Check.grid("grid 2 2;shut 0 0 down;").leader(0, 2), 3);
        WaterGrid wide = Check.grid("grid 2 3;");
        due("37 all others are open", wide.leader(1, 1), 0);
        due("38 least", g.rank(0, 0, false, 1, 2), 2);
        due("38 greatest", g.rank(1, 0, true, 1, 2), 0);
        due("38 as great ones do not count", g.rank(0, 1, false, 6, 6), 0);
        for (int[] none : new int[][] {{0, 0}, {-1, 2}, {3, 2}, {1, 7}}) {
            refused("37 chance", ARGUMENT, () -> g.leader(none[0], none[1]));
            refused("38 chance", ARGUMENT, () -> g.rank(0, 0, true, none[0], none[1]));
        }
        refused("38 no pipe first", INDEX, () -> g.rank(1, 0, false, 9, 9));
        g.tell(0, 0, true, 1);
        refused("36 not free", STATE, () -> g.decides(0, 0, true, 0));
        refused("38 chance ahead of not free", ARGUMENT, () -> g.rank(0, 0, true, 1, 0));
        refused("38 not free", STATE, () -> g.rank(0, 0, true, 1, 2));
    }

    // Promises 39 and 40
    private void fewest() {
        WaterGrid g = Check.grid("grid 3 4;open 0 0 down;open 1 2 down;");
        due("39 by open ones", g.toOpen(), 2);
        due("40 a row of pipes", g.toShut(), 3);
        due("40 with an open one", Check.grid("grid 3 2;open 1 0 down;").toShut(), -1);
        due("39 with an open one", Check.grid("grid 3 2;open 1 0 down;").toOpen(), 0);
        due("39 never", Check.grid("grid 1 2;shut 0 0 down;").toOpen(), -1);
        due("40 never", Check.grid("grid 1 2;shut 0 0 down;").toShut(), 0);
        due("39 far", Check.grid("grid 4 4;").toOpen() + " " + Check.grid("grid 4 4;").toShut(), "3 4");
    }

    // Promise 41
    private void drawn() {
        WaterGrid g = Check.grid("grid 2 2;");
        due("41 joins", g.drawn(1, 1, 2, 0), 1);
        due("41 wet", g.drawn(1, 1, 2, 1), 3);
        due("41 open", g.drawn(1, 1, 2, 2), 2);
        due("41 last row", g.drawn(1, 1, 2, 3), 1);
        due("41 not one", g.drawn(1, 0, 2, 0) + " " + g.drawn(1, 0, 2, 1) + " " + g.drawn(1, 0, 2, 2) + " "
                + g.drawn(1, 0, 2, 3), "0 2 0 0");
        due("41 nothing is told", g.count(2) + g.count(6), 4);
        refused("41 chance first", ARGUMENT, () -> g.drawn(1, 1, 0, 9));
        refused("41 what", ELEMENT, () -> g.drawn(1, 1, 2, 4));
        refused("41 what", ELEMENT, () -> g.drawn(1, 1, 2, -1));
        WaterGrid stony = Check.grid("grid 1 2;stone 0 0;");
        due("41 no cell is wet", stony.drawn(1, 1, 1, 3) + " " + stony.drawn(1, 1, 1, 1), "-1 0");
        WaterGrid open = Check.grid("grid 1 3;open 0 0 down;");
        due("41 open ones are not drawn", open.drawn(9, 6, 6, 2), 1);
        // Seed -1 becomes -1103502900, whose bits 16 to 30 are 15929.
        due("41 a seed below 0", open.drawn(-1, 2, 5, 2) + " " + open.drawn(-1, 4, 5, 2) + " " + open.drawn(-1, 5, 5, 2), "0 0 1");
    }

    // Promise 42
    private void oneByOne() {
        WaterGrid g = Check.grid("grid 2 2;");
        // Seed 1: the fourth changes with place 16838 % 4, the third with 5758 % 3, the second with 10113 % 2.
        due("42 how many", g.oneByOne(1, false), 3);
        due("42 the last", g.oneByOne(1, true), 1);
        due("42 at once", new WaterGrid().oneByOne(1, false) + " " + new WaterGrid().oneByOne(1, true), "0 -1");
        WaterGrid never = Check.grid("grid 1 3;shut 0 0 down;");
        due("42 never", never.oneByOne(1, false) + " " + never.oneByOne(1, true), "-1 -1");
        WaterGrid column = Check.grid("grid 1 3;");
        due("42 all", column.oneByOne(0, false), 2);
        // Seed 0 becomes 12345, whose bits 16 to 30 are 0: the second changes with the first.
        due("42 the first is the last", column.oneByOne(0, true), 1);
        due("42 nothing is told", column.count(2), 2);
    }

    // Promises 43 to 45
    private void kept() {
        WaterGrid g = Check.grid("grid 2 2;");
        refused("44 nothing is kept", ELEMENT, g::compare);
        refused("45 nothing is kept", ELEMENT, g::beats);
        due("43 half", g.keep(), 1);
        due("44 itself", g.compare(), 0);
        due("45 itself", g.beats(), 0);
        g.tell(0, 0, false, 2);
        due("44 more", g.compare(), 1);
        refused("45 not as many", STATE, g::beats);
        due("43 in its place", g.keep(), 1);
        g.undo();
        due("44 less", g.compare(), -1);
        Check.feed(g, "grid 1 4;");
        g.read();
        due("45 none more, some less", g.beats(), 2);
        due("44 all three", g.compare(), 1);
        g.keep();
        Check.feed(g, "grid 2 2;shut 0 0 right;");
        g.read();
        due("45 none less, some more", g.beats(), 1);
        Check.feed(g, "grid 1 3;shut 0 0 down;");
        g.read();
        due("44 none is more than any", g.compare(), 1);
        due("43 none", g.keep(), -1);
        due("44 none and none", g.compare(), 0);
        Check.feed(g, "grid 1 2;");
        g.read();
        due("44 any is less than none", g.compare(), -1);
        Check.feed(g, "grid 1 2;shut 0 0 down;");
        g.read();
        due("43 none with no pipe free", g.keep(), -1);
        Check.feed(g, "grid 1 2;");
        g.read();
        due("44 with no pipe free it is 0", g.compare(), 1);
        // One pipe alone that joins, among six, against three ways of two.
        WaterGrid one = Check.grid("grid 4 2;shut 0 0 down;shut 2 0 down;shut 3 0 down;shut 0 1 right;");
        due("45 one of six", joins(one), "0 1 5 10 10 5 1");
        one.keep();
        Check.feed(one, "grid 3 3;shut 0 0 right;shut 1 0 right;shut 0 1 right;shut 1 1 right;shut 0 2 right;shut 1 2 right;");
        one.read();
        due("45 three ways of two", joins(one), "0 0 3 12 15 6 1");
        due("45 some more, some less", one.beats(), 3);
    }

    // Promises 46 and 47
    private void written() {
        WaterGrid g = Check.grid("grid 3 2;open 0 0 right;shut 1 0 right;open 2 0 down;shut 1 0 down;stone 0 1;");
        due("47 ahead of any", g.octet(0), -1);
        due("46 how many", g.write(), 18);
        due("46 bytes", Check.written(g), "o-o o\n    |\n# o.o\n");
        due("47 behind", g.octet(18), -1);
        due("47 below 0", g.octet(-1), -1);
        due("47 far", g.octet(LEAST) + " " + g.octet(MOST), "-1 -1");
        g.turn(0);
        due("47 what was written latest", g.octet(1), 45);
        Check.feed(g, "grid 5 5;stone 1 1;stone 1 3;stone 3 1;stone 3 3;");
        g.read();
        due("46 the most", g.write(), 90);
        due("47 the last", g.octet(89), 10);
        due("46 a column", Check.written(Check.grid("grid 1 3;open 0 0 down;")), "o\n|\no\n.\no\n");
    }

    // Promise 48
    private void counted() {
        WaterGrid g = Check.grid("grid 3 2;open 0 0 right;shut 1 0 right;open 2 0 down;stone 2 1;");
        due("48 columns", g.count(0), 3);
        due("48 rows", g.count(1), 2);
        due("48 free", g.count(2), 3);
        due("48 open", g.count(3), 1);
        due("48 shut", g.count(4), 3);
        due("48 stones", g.count(5), 1);
        g.turn(0);
        due("48 acts", g.count(6), 1);
        due("48 nothing written", g.count(7), 0);
        g.write();
        due("48 written", g.count(7), 18);
        due("48 another", g.count(8) + " " + g.count(-1) + " " + g.count(LEAST), "-1 -1 -1");
    }
}
