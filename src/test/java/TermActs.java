import java.io.IOException;
import java.nio.file.Files;
import java.nio.file.Path;
import java.util.regex.Matcher;
import java.util.regex.Pattern;

/** Acts, what is kept, what is written, exceptions, the interface. */
final class TermActs extends Terms {
    /** Every kind of pipe, right and down, and a stone. */
    private static final String MIXED = "grid 3 2;open 0 0 right;shut 1 0 right;open 0 0 down;shut 2 0 down;open 0 1 right;stone 2 1;";
    private static final String WRITTEN = "o-o o\n| .  \no-o #\n";

    TermActs(Check check, Doc doc) { super(check, doc); }

    @Override
    void sentences() {
        acts();
        undone();
        turned();
        drained();
        written();
        exceptions();
        faces();
    }

    private void acts() {
        says("ACTS (the latest 16 are kept): a PIPE is told FREE, OPEN or SHUT, a CELL becomes a STONE or no STONE (PIPES are as told "
                + "yet), the GRID is TURNED, DRAINED.");
        WaterGrid g = grid(MIXED);
        g.tell(1, 0, true, 1);
        due("open", g.pipe(1, 0, true) + " " + g.count(6), "1 1");
        g.tell(1, 0, true, 2);
        due("shut", g.pipe(1, 0, true) + " " + g.count(6), "2 2");
        g.tell(1, 0, true, 0);
        due("free", g.pipe(1, 0, true) + " " + g.count(6), "0 3");
        g.put(0, 0, true);
        due("a stone", g.stone(0, 0) + " " + g.pipe(0, 0, true) + " " + g.count(6), "true 2 4");
        g.put(0, 0, false);
        due("no stone, and its pipes as told", g.stone(0, 0) + " " + g.pipe(0, 0, true) + " " + g.pipe(0, 0, false) + " " + g.count(6), "false 1 1 5");
        g.turn(0);
        due("turned", g.count(6), 6);
        g.drain(1, 1, 2);
        due("drained", g.count(6), 7);
        for (int i = 8; i <= 16; i++) g.turn(1);
        due("16 acts", g.count(6), 16);
        g.turn(1);
        due("17 acts", g.count(6), 16);
        for (int i = 15; i >= 0; i--) due("so many are left", g.undo(), i);
        due("none is left", g.undo(), -1);
        due("behind the first one, which is not kept", g.pipe(1, 0, true), 1);
        says("Each is one also where nothing changes.");
        g = new WaterGrid();
        g.turn(2);
        g.drain(1, 1, 2);
        g.put(0, 0, false);
        due("three", g.count(6), 3);
        g = grid(MIXED);
        g.tell(0, 0, true, 1);
        due("told again", g.count(6) + " " + Check.written(g), "1 " + WRITTEN);
    }

    private void undone() {
        says("UNDONE: the GRID is as ahead of it.");
        WaterGrid g = grid(MIXED);
        g.tell(1, 0, true, 2);
        g.undo();
        due("a pipe told", Check.written(g), WRITTEN);
        g.put(1, 1, true);
        g.undo();
        due("a stone put", Check.written(g), WRITTEN);
        g.put(2, 1, false);
        g.undo();
        due("a stone taken", Check.written(g), WRITTEN);
        for (int how = 0; how <= 2; how++) {
            g.turn(how);
            g.undo();
            due("turned by " + how, Check.written(g), WRITTEN);
        }
        g.drain(3, 1, 2);
        g.undo();
        due("drained", Check.written(g) + g.joins(0), WRITTEN + "1");
    }

    private void turned() {
        says("TURNED is a GRID: its left changed with its right (0), its top with its bottom (1), its COLUMNS with its ROWS (2: what was "
                + "at (x, y) is at (y, x), right is down), with all PIPES and STONES.");
        String[] want = {"o o-o\n  . |\n# o-o\n", "o-o #\n| .  \no-o o\n", "o-o\n| |\no.o\n   \no #\n"};
        for (int how = 0; how <= 2; how++) {
            WaterGrid g = grid(MIXED);
            g.turn(how);
            due("turned by " + how, Check.written(g), want[how]);
            g.turn(how);
            due("twice by " + how, Check.written(g), WRITTEN);
        }
        WaterGrid below = grid("grid 2 1;open 0 0 right;stone 0 0;");
        below.turn(0);
        below.put(1, 0, false);
        due("what was told goes with it below a stone, too", below.pipe(0, 0, false), 1);
    }

    private void drained() {
        says("DRAINED: each FREE PIPE is told OPEN or SHUT as DRAWN.");
        for (int seed = 0; seed < 20; seed++) {
            WaterGrid g = grid("grid 3 3;open 1 1 down;shut 1 0 down;");
            int open = g.drawn(seed, 1, 2, 2);
            int joins = g.drawn(seed, 1, 2, 0);
            due("it joins as drawn", g.drain(seed, 1, 2), joins == 1);
            due("free, open, shut", g.count(2) + " " + g.count(3) + " " + g.count(4), "0 " + (open + 1) + " " + (11 - open));
        }
        says("KEPT is a GRID as it is, to be compared.");
        WaterGrid g = grid(SQUARE);
        g.keep();
        g.tell(0, 0, true, 2);
        due("now half of it is 2 of 3, then it was 1 of 4", g.compare(), 1);
        g.undo();
        due("as it was kept", g.compare() + " " + g.beats(), "0 0");
    }

    private void written() {
        says("WRITTEN: ROW by ROW, a byte 10 behind each line: CELLS (o, a STONE: #), between them the PIPE right (- OPEN, a blank "
                + "SHUT, . FREE); behind each ROW but the last a line of PIPES down (| OPEN, a blank SHUT, . FREE), one blank between.");
        due("each kind", Check.written(grid(MIXED)), WRITTEN);
        due("free ones right", Check.written(grid("grid 3 1;")), "o.o.o\n");
        due("one column", Check.written(grid("grid 1 4;open 0 0 down;shut 0 1 down;")), "o\n|\no\n \no\n.\no\n");
        due("pipes of a stone are shut", Check.written(grid("grid 2 2;stone 0 0;open 0 0 right;open 0 0 down;")), "# o\n  .\no.o\n");
    }

    private void exceptions() {
        says("Of several exceptions the one told first is thrown;");
        WaterGrid g = grid(MIXED);
        refused("no pipe, no chance, told as none", INDEX, () -> g.would(3, 0, true, 3, 1, 7, true));
        refused("told as none, a pipe that is not free", ARGUMENT, () -> g.would(0, 0, true, 3, 1, 2, true));
        refused("no chance, a pipe that is not free", ARGUMENT, () -> g.rank(0, 0, true, 3, 2));
        refused("a pipe that is not free", STATE, () -> g.rank(0, 0, true, 1, 2));
        refused("no row, no state", INDEX, () -> g.state(2, 99, 0));
        refused("no cell, no state", INDEX, () -> g.state(1, 99, 3));
        refused("no chance, another what", ARGUMENT, () -> g.drawn(1, 3, 2, 9));
        says("a call that throws changes nothing but the TAPE, where it is used up, and fault(), where a text is read.");
        Check.feed(g, "grid 2 2;open");
        refused("a text that is cut off", ARGUMENT, g::read);
        due("the fault", g.fault(), 13);
        due("the tape is used up", g.end(1), false);
        refused("no such act", ARGUMENT, () -> { g.turn(3); return 0; });
        refused("told as none", ARGUMENT, () -> g.tell(1, 0, true, 3));
        due("the fault stays", g.fault(), 13);
        due("no act, the grid as it was", g.count(6) + Check.written(g), "0" + WRITTEN);
        says("IndexOutOfBoundsException: there is no such CELL, ROW, PIPE.");
        refused("cell", INDEX, () -> g.stone(3, 0));
        refused("row", INDEX, () -> g.states(2));
        refused("pipe", INDEX, () -> g.pipe(2, 0, false));
        says("IllegalArgumentException: a number is none; a text is wrong.");
        refused("a set", ARGUMENT, () -> g.wet(8, 0));
        refused("parts", ARGUMENT, () -> g.least(1, 101));
        refused("no text", ARGUMENT, g::read);
        says("NoSuchElementException: there is none such, another what.");
        refused("a state", ELEMENT, () -> g.ways(0, 1, 0));
        refused("what", ELEMENT, () -> g.drawn(1, 1, 2, 4));
        refused("nothing kept", ELEMENT, g::beats);
        says("IllegalStateException: it cannot be.");
        refused("a 25th free one", STATE, () -> grid(sized(5, 5)).tell(0, 0, true, 0));
        refused("more than 12 to try", STATE, () -> grid(FULL).tried(0, 0));
        refused("a pipe that is not free", STATE, () -> g.decides(0, 0, true, 0));
        says("At first the GRID is \"grid 1 1;\".");
        due("written", Check.written(new WaterGrid()), Check.written(grid("grid 1 1;")));
    }

    /** The comments that part the calls of the face stand in the source. */
    private void faces() {
        String source;
        try {
            source = Files.readString(Path.of("src/main/java/WaterGrid.java"));
        } catch (IOException e) {
            throw new IllegalStateException("the source cannot be read", e);
        }
        String[][] groups = {
            {"acts", "tell put turn drain undo"},
            {"by so many", "joins bars choices states state ways wet reaches parted pair tried just likeliest between alike"},
            {"by chances", "value barred would wetness depth least mean half decides leader rank toOpen toShut drawn oneByOne"},
            {"compared", "keep compare beats write octet count"},
        };
        for (String[] group : groups) {
            String calls = "`" + group[1].replace(" ", "`, `") + "`";
            says("Ahead of the calls " + calls + " the interface says: ---- " + group[0] + ".");
            for (String call : group[1].split(" ")) due("ahead of " + call, commentAhead(source, call), group[0]);
        }
    }

    private static String commentAhead(String source, String call) {
        Matcher header = Pattern.compile("\n    public \\w+ " + call + "\\(").matcher(source);
        if (!header.find()) return "no such call";
        int at = source.lastIndexOf("// ---- ", header.start());
        return at < 0 ? "nothing" : source.substring(at + 8, source.indexOf('\n', at));
    }
}
