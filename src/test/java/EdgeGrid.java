/** Boundary cases of what the grid is, and of acts: promises 6 to 12. */
final class EdgeGrid extends Edges {
    /** Two stones, one above an open pipe; a pipe of each kind. */
    private static final String RICH = "grid 3 2;open 0 0 right;shut 0 0 down;open 2 0 down;stone 2 1;";

    EdgeGrid(Check check, Doc doc) { super(check, doc); }

    @Override
    void run() {
        places();
        pipe();
        tell();
        put();
        turn();
        drain();
        undo();
        eachIsAnAct();
        undone();
    }

    private void places() {
        term("IndexOutOfBoundsException: there is no such CELL, ROW, PIPE.");
        for (int columns = 1; columns <= 5; columns++) {
            for (int rows = 1; rows <= 5; rows++) {
                for (int x = -1; x <= columns; x++) {
                    WaterGrid g = grid(sized(columns, rows));
                    for (int y = -1; y <= rows; y++) place(g, x, y, columns, rows);
                }
            }
        }
        for (int far : FAR) {
            place(grid(RICH), far, 0, 3, 2);
            place(grid(RICH), 0, far, 3, 2);
            place(grid(RICH), far, far, 3, 2);
        }
    }

    private void place(WaterGrid g, int x, int y, int columns, int rows) {
        boolean cell = x >= 0 && y >= 0 && x < columns && y < rows;
        String at = " " + x + " " + y + " of " + columns + " " + rows;
        String no = "IndexOutOfBoundsException";
        due("stone" + at, Check.answer(() -> g.stone(x, y)), cell ? "false" : no);
        for (boolean down : new boolean[] {false, true}) {
            boolean pipe = cell && (down ? y < rows - 1 : x < columns - 1);
            due("pipe" + at + down, Check.answer(() -> g.pipe(x, y, down) >= 0), pipe ? "true" : no);
            due("tell" + at + down, Check.answer(() -> g.tell(x, y, down, 1) >= 0), pipe ? "true" : no);
        }
        due("put" + at, Check.answer(() -> g.put(x, y, true)), cell ? "false" : no);
    }

    private void pipe() {
        promise(6, "Of a PIPE 0 FREE, 1 OPEN, 2 SHUT (told so, or by a STONE).");
        WaterGrid g = grid("grid 3 3;open 0 0 right;shut 0 0 down;open 2 1 down;open 1 2 right;stone 2 2;");
        due("free", g.pipe(1, 0, false), 0);
        due("open", g.pipe(0, 0, false), 1);
        due("told shut", g.pipe(0, 0, true), 2);
        due("by a stone below", g.pipe(2, 1, true), 2);
        due("by a stone at the right", g.pipe(1, 2, false), 2);
        due("beside a stone's pipes", g.pipe(2, 0, true) + g.pipe(0, 2, false), 0);
        g.put(0, 0, true);
        due("by a stone where it begins", g.pipe(0, 0, false), 2);
        promise(7, "Whether a CELL is a STONE.");
        due("one", g.stone(2, 2) && g.stone(0, 0), true);
        due("none beside it", g.stone(1, 2) || g.stone(2, 1) || g.stone(1, 0) || g.stone(0, 1), false);
    }

    private void tell() {
        promise(8, "A PIPE is told so (0 FREE, 1 OPEN, 2 SHUT): what was told of it.");
        WaterGrid g = grid("grid 2 1;");
        int before = 0;
        for (int how : new int[] {0, 1, 1, 2, 2, 0, 2, 1, 0}) {
            due("before " + how, g.tell(0, 0, false, how), before);
            due("now", g.pipe(0, 0, false), how);
            before = how;
        }
        g.put(1, 0, true);
        due("told below a stone", g.tell(0, 0, false, 1), 0);
        due("told, not what it is", g.tell(0, 0, false, 1), 1);
        due("what it is", g.pipe(0, 0, false), 2);
        promise(8, "IllegalArgumentException: it is none of these; IllegalStateException: more than 24 would be FREE.");
        for (int how : new int[] {-1, 3, 4, LEAST, MOST}) refused("how " + how, ARGUMENT, () -> g.tell(0, 0, false, how));
        WaterGrid near = grid(withFree(5, 4, 23, "open"));
        due("the 24th", near.tell(0, 0, false, 0), 1);
        due("24", near.count(2), 24);
        refused("the 25th", STATE, () -> near.tell(0, 0, true, 0));
        due("open yet", near.pipe(0, 0, true) + " " + near.count(2) + " " + near.count(6), "1 24 1");
        due("a free one is told free", near.tell(0, 0, false, 0), 0);
        due("the 25th is shut", near.tell(0, 0, true, 2), 1);
        refused("it was shut", STATE, () -> near.tell(0, 0, true, 0));
        due("one less", near.tell(0, 0, false, 1), 0);
        due("the 24th again", near.tell(0, 0, true, 0), 2);
        WaterGrid below = grid("grid 5 4;shut 0 0 right;shut 0 0 down;shut 1 1 right;shut 1 1 down;shut 2 2 right;shut 2 2 down;"
                + "shut 3 3 right;");
        due("just 24", below.count(2), 24);
        below.put(0, 0, true);
        due("a stone's pipe is told free, and is not", below.tell(0, 0, true, 0) + " " + below.count(2), "2 24");
        refused("without the stone it would be", STATE, () -> below.put(0, 0, false));
    }

    private void put() {
        promise(9, "A CELL becomes a STONE, or no STONE: whether it was one. IllegalStateException: more than 24 would be FREE.");
        WaterGrid g = grid("grid 1 2;");
        boolean before = false;
        for (boolean stone : new boolean[] {false, true, true, false, false, true, false}) {
            due("before", g.put(0, 1, stone), before);
            due("now", g.stone(0, 1), stone);
            before = stone;
        }
        // Without its stone the corner has one free pipe, the other one is told shut.
        WaterGrid to24 = cornered(23);
        due("to 24", to24.put(0, 0, false) + " " + to24.count(2), "true 24");
        WaterGrid to25 = cornered(24);
        due("24 ahead", to25.count(2), 24);
        refused("to 25", STATE, () -> to25.put(0, 0, false));
        due("a stone yet, no act", to25.stone(0, 0) + " " + to25.count(2) + " " + to25.count(6), "true 24 0");
        due("a stone stays one", to25.put(0, 0, true), true);
        due("what is no stone stays none", to25.put(4, 3, false), false);
        due("with one pipe less", Check.answer(() -> to25.tell(4, 2, true, 1)), 0);
        due("it may go", to25.put(0, 0, false), true);
        due("just 24", to25.count(2), 24);
    }

    /** A stone at the corner, one of its pipes told shut, so many pipes free. */
    private static WaterGrid cornered(int free) {
        StringBuilder text = new StringBuilder("grid 5 4;stone 0 0;shut 0 0 right;");
        for (int i = 0; i < 29 - free; i++) text.append("shut " + i % 4 + " " + (1 + i / 4) + " right;");
        return grid(text.toString());
    }

    private static String turned(String text, int how) {
        WaterGrid g = grid(text);
        g.turn(how);
        return Check.written(g);
    }

    private void turn() {
        promise(10, "The GRID is TURNED (0 to 2), an ACT, too. IllegalArgumentException: another one.");
        for (int how : new int[] {-1, 3, 4, LEAST, MOST}) {
            WaterGrid g = grid(RICH);
            refused("turn " + how, ARGUMENT, () -> { g.turn(how); return 0; });
            due("no act", g.count(6) + " " + Check.written(g), "0 o-o.o\n  .  \no.o #\n");
        }
        due("0", turned(RICH, 0), "o.o-o\n  .  \n# o.o\n");
        due("1", turned(RICH, 1), "o.o #\n  .  \no-o.o\n");
        due("2", turned(RICH, 2), "o o\n| .\no.o\n.  \no #\n");
        for (int how = 0; how <= 2; how++) {
            WaterGrid g = grid(RICH);
            g.turn(how);
            due("an act", g.count(6), 1);
            g.turn(how);
            due("twice is not at all", Check.written(g), "o-o.o\n  .  \no.o #\n");
            g.put(2, 1, false);
            due("what was told below the stone, too", g.pipe(2, 0, true), 1);
            due("one cell", turned("grid 1 1;stone 0 0;", how), "#\n");
        }
        term("its left changed with its right (0), its top with its bottom (1), its COLUMNS with its ROWS (2: what was at (x, y) is at (y, x), right is down), with all PIPES and STONES.");
        String corners = sized(5, 5) + "stone 4 0;open 3 4 right;open 4 3 down;open 0 3 down;open 0 4 right;";
        due("5 by 5 ahead", Check.written(grid(corners)), "o o o o #\n         \no o o o o\n      . .\no.o.o.o.o\n. . . . .\n"
                + "o.o.o.o.o\n| . . . |\no-o.o.o-o\n");
        due("5 by 5, left and right", turned(corners, 0), "# o o o o\n         \no o o o o\n. .      \no.o.o.o.o\n. . . . .\n"
                + "o.o.o.o.o\n| . . . |\no-o.o.o-o\n");
        due("5 by 5, top and bottom", turned(corners, 1), "o-o.o.o-o\n| . . . |\no.o.o.o.o\n. . . . .\no.o.o.o.o\n      . .\n"
                + "o o o o o\n         \no o o o #\n");
        due("5 by 5, columns and rows", turned(corners, 2), "o o o.o-o\n    . . |\no o o.o.o\n    . . .\no o o.o.o\n    . . .\n"
                + "o o.o.o.o\n    . . |\n# o.o.o-o\n");
        due("a row", turned("grid 5 1;open 0 0 right;stone 4 0;", 2), "o\n|\no\n.\no\n.\no\n \n#\n");
        due("a column", turned("grid 1 5;open 0 0 down;stone 0 4;", 2), "o-o.o.o #\n");
        due("a row, top and bottom", turned("grid 5 1;open 0 0 right;stone 4 0;", 1), "o-o.o.o #\n");
        due("a column, left and right", turned("grid 1 2;open 0 0 down;", 0), "o\n|\no\n");
    }

    private void drain() {
        promise(11, "The GRID is DRAINED by a SEED and a CHANCE, an ACT, too: whether it JOINS then. IllegalArgumentException: the CHANCE is none.");
        chances("drain", 6, (a, b) -> grid(RICH).drain(1, a, b));
        for (int b = 1; b <= 6; b++) {
            for (int seed : new int[] {LEAST, -1, 0, 1, MOST}) {
                WaterGrid g = grid("grid 2 2;");
                due("none is open", g.drain(seed, 0, b) + " " + Check.written(g), "false o o\n   \no o\n");
                due("undone", g.undo() + " " + g.count(2), "0 4");
                due("all are open", g.drain(seed, b, b) + " " + Check.written(g), "true o-o\n| |\no-o\n");
                due("an act", g.count(6), 1);
            }
        }
        WaterGrid g = grid("grid 1 2;open 0 0 down;");
        due("none is free: it joins by what is open", g.drain(5, 0, 1), true);
        due("an act yet", g.count(6) + " " + g.pipe(0, 0, true), "1 1");
        due("one row", grid("grid 3 1;").drain(1, 0, 1), true);
        due("one row of stones", grid("grid 1 1;stone 0 0;").drain(1, 1, 1), false);
        WaterGrid stony = grid("grid 2 2;stone 0 0;");
        stony.drain(3, 1, 1);
        stony.put(0, 0, false);
        due("what a stone shuts is not free: it is told nothing", Check.written(stony), "o.o\n. |\no-o\n");
    }

    private void undo() {
        term("ACTS (the latest 16 are kept)");
        promise(12, "The latest ACT is UNDONE: how many can be; NONE: there was none.");
        due("a new object", new WaterGrid().undo(), -1);
        for (int acts = 0; acts <= 24; acts++) {
            WaterGrid g = grid(FULL);
            // Each act tells another pipe, so that it is seen which ones are undone.
            for (Pipe p : pipes(4, 4).subList(0, acts)) g.tell(p.x(), p.y(), p.down(), 1);
            int can = Math.min(acts, 16);
            due("acts of " + acts, g.count(6), can);
            for (int left = can - 1; left >= 0; left--) due("undone of " + acts, g.undo(), left);
            due("no more of " + acts, g.undo(), -1);
            due("none is left of " + acts, g.count(6), 0);
            due("what is open behind " + acts, g.count(3), acts - can);
        }
        WaterGrid g = grid("grid 2 1;");
        for (int i = 0; i < 16; i++) g.tell(0, 0, false, 1);
        g.undo();
        g.tell(0, 0, false, 2);
        due("16 again", g.count(6), 16);
        g.tell(0, 0, false, 2);
        due("16 yet", g.count(6), 16);
        for (int left = 15; left >= 0; left--) due("undone", g.undo(), left);
        due("ahead of the second act", g.pipe(0, 0, false), 1);
        due("to undo is no act", g.undo(), -1);
    }

    private void eachIsAnAct() {
        term("Each is one also where nothing changes.");
        WaterGrid g = grid("grid 2 2;open 0 0 right;stone 1 1;");
        String before = Check.written(g);
        g.tell(0, 0, false, 1);
        due("told as it is", g.count(6) + before, 1 + Check.written(g));
        g.put(1, 1, true);
        due("a stone again", g.count(6) + before, 2 + Check.written(g));
        g.put(0, 0, false);
        due("no stone again", g.count(6) + before, 3 + Check.written(g));
        WaterGrid one = new WaterGrid();
        for (int how = 0; how <= 2; how++) {
            one.turn(how);
            due("one cell turned", one.count(6) + Check.written(one), how + 1 + "o\n");
        }
        one.drain(1, 1, 2);
        due("nothing to drain", one.count(6), 4);
        one.put(0, 0, false);
        for (int left = 4; left >= 0; left--) due("each is undone", one.undo(), left);
        due("no more", one.undo(), -1);
    }

    private void undone() {
        term("UNDONE: the GRID is as ahead of it.");
        WaterGrid g = grid(RICH);
        String[] seen = new String[6];
        for (int i = 0; i < 6; i++) {
            seen[i] = Check.written(g) + g.joins(1) + g.count(2);
            if (i == 0) g.tell(1, 0, false, 2);
            if (i == 1) g.put(2, 1, false);
            if (i == 2) g.turn(2);
            if (i == 3) g.drain(3, 1, 2);
            if (i == 4) g.put(0, 0, true);
        }
        for (int i = 4; i >= 0; i--) due("undone", g.undo() + Check.written(g) + g.joins(1) + g.count(2), i + seen[i]);
        term("a CELL becomes a STONE or no STONE (PIPES are as told yet)");
        WaterGrid yet = grid("grid 2 2;open 0 0 right;shut 0 0 down;");
        yet.put(0, 0, true);
        due("shut", Check.written(yet), "# o\n  .\no.o\n");
        yet.put(0, 0, false);
        due("as told yet", Check.written(yet), "o-o\n  .\no.o\n");
        due("nothing more is free", yet.count(2), 2);
    }
}
