/** What the class is; the text, the grid, the fault. */
final class TermText extends Terms {
    TermText(Check check, Doc doc) { super(check, doc); }

    @Override
    void sentences() {
        whatItIs();
        uses();
        text();
        signs();
        grids();
        pipes();
        stones();
        faults();
    }

    private void whatItIs() {
        says("Water that goes through a grid of cells by pipes that are open by chance: a grid told as a text, pipes that are "
                + "always open, or shut, stones;");
        WaterGrid told = grid("grid 3 2;open 0 0 down;shut 1 0 down;stone 2 0;");
        due("open, shut, free", told.pipe(0, 0, true) + " " + told.pipe(1, 0, true) + " " + told.pipe(0, 0, false), "1 2 0");
        due("a stone", told.stone(2, 0), true);
        says("in how many choices of so many open pipes water comes from the top to the bottom, found row by row from what is "
                + "joined in a row; states of rows and how many choices lead to them, which cells of the bottom are wet;");
        WaterGrid g = grid(SQUARE);
        due("joins", joins(g), "0 2 5 4 1");
        due("states", states(g, 1), "00 01 10 11 12");
        due("how many lead to both wet", g.ways(1, 0, 2) + " " + g.wet(3, 2), "3 3");
        says("the dual grid, by which what is shut bars the way from left to right;");
        due("both pipes down must be shut", bars(g), "0 0 1 2 1");
        says("values by chances, how many pipes one opens till water comes, half of all, thresholds compared;");
        due("value", value(g, 1, 3), "5/9");
        due("mean", fraction(g.mean(false), g.mean(true)), "5/3");
        due("half", g.half(), 1);
        due("compared", g.keep() + " " + g.compare(), "1 0");
        says("pipes that decide; the fewest to open, the fewest to shut; draws; acts undone, all written. ==== 1.");
        due("a pipe that decides", g.leader(1, 2), 1);
        due("fewest", g.toOpen() + " " + g.toShut(), "1 2");
        due("a draw where all are open", g.drawn(7, 1, 1, 2), 4);
        g.tell(0, 0, true, 1);
        due("an act", Check.written(g), "o.o\n| .\no.o\n");
        due("undone", g.undo() + Check.written(g), "0o.o\n. .\no.o\n");
    }

    private void uses() {
        says("An object is used for at most 512 calls after it has been made; what later calls answer is free.");
        WaterGrid g = new WaterGrid();
        for (int i = 1; i <= 510; i++) g.put(0, 0, i % 2 == 1);
        due("call 511", g.joins(0), 1);
        due("call 512", g.undo(), 15);
    }

    private void text() {
        says("THE TEXT has at most 400 bytes: grid N N ; { LINE ; }.");
        fault("grid 3 2;", -1);
        fault("grid 3 2;stone 0 0;", -1);
        fault("grid 3 2;stone 0 0;open 1 0 right;", -1);
        fault("grid 3 2;" + " ".repeat(391), -1);
        WaterGrid full = new WaterGrid();
        Check.feed(full, "grid 3 2;" + " ".repeat(391));
        due("a byte more", full.feed(0, 0, 0, 0, 0), -1);
        due("400 bytes are read", full.read(), 7);
        fault("grid 3 2 stone 0 0;", 9);
        fault("grid 3 2;stone 0 0 stone 1 0;", 19);
        fault("grid 3 2;;", 9);
        fault("grid 3 2;grid 3 2;", 9);
        fault("stone 0 0;grid 3 2;", 0);
        says("LINE: open N N WAY | shut N N WAY | stone N N.");
        WaterGrid g = grid("grid 3 2;open 0 0 right;shut 1 0 down;stone 2 1;");
        due("told", g.pipe(0, 0, false) + " " + g.pipe(1, 0, true) + " " + g.stone(2, 1), "1 2 true");
        fault("grid 3 2;free 0 0 down;", 9);
        fault("grid 3 2;stone 0 0 down;", 19);
        fault("grid 3 2;open 0 0;", 17);
        fault("grid 3 2;open 0 down;", 16);
        says("WAY: right or down.");
        fault("grid 3 2;open 1 0 right;open 1 0 down;", -1);
        for (String way : new String[] {"left", "up", "Right", "2", ";"}) fault("grid 3 2;open 1 0 " + way + ";", 18);
        says("N: one digit.");
        fault("grid 3 02;", 7);
        fault("grid 3 -2;", 7);
        fault("grid three 2;", 5);
        fault("grid 3 2;stone 00 0;", 15);
        fault("grid 3 2;stone 0 00;", 17);
    }

    private void signs() {
        says("BLANKS (9, 10, 32) may stand between all;");
        String[] parts = {"grid", "3", "2", ";", "open", "0", "0", "down", ";", "stone", "2", "1", ";"};
        for (String blank : new String[] {"\t", "\n", " ", "\n \t"}) fault(String.join(blank, parts) + blank, -1);
        fault("grid3 2;open0 0down;stone2 1;", -1);
        for (char other : new char[] {0, 8, 11, 12, 13, 31, 160}) {
            fault("grid" + other + "3 2;", 4);
            fault("grid 3 2;" + other, 9);
        }
        says("words are as many small letters as stand there, numbers as many digits.");
        fault("gridd 3 2;", 0);
        fault("grid 3 2;openopen 0 0 down;", 9);
        fault("grid 3 2;open 0 0 downright;", 18);
        fault("grid 32;", 5);
        fault("grid 3 2;stone 10;", 15);
    }

    private void grids() {
        says("A GRID has COLUMNS and ROWS, 1 to 5 each:");
        for (int columns = 0; columns <= 9; columns++) {
            for (int rows = 0; rows <= 9; rows++) {
                boolean right = columns >= 1 && columns <= 5;
                boolean below = rows >= 1 && rows <= 5;
                String text = "grid " + columns + " " + rows + ";";
                if (!right || !below) {
                    fault(text, right ? 7 : 5);
                    continue;
                }
                WaterGrid g = grid(sized(columns, rows));
                due("columns, rows of " + text, g.count(0) + " " + g.count(1), columns + " " + rows);
            }
        }
        says("CELLS (x, y), (0, 0) at the left of the TOP ROW.");
        due("stone 0 0", Check.written(grid("grid 3 2;stone 0 0;")), "# o.o\n  . .\no.o.o\n");
        due("stone 2 1", Check.written(grid("grid 3 2;stone 2 1;")), "o.o.o\n. .  \no.o #\n");
        due("water comes from row 0", grid("grid 1 2;stone 0 0;").joins(0), 0);
    }

    private void pipes() {
        says("PIPES: from each CELL right to the next one of its ROW, down to the one below it, where there is one.");
        WaterGrid g = grid("grid 3 2;");
        String there = "";
        for (int y = -1; y <= 2; y++) {
            for (int x = -1; x <= 3; x++) {
                if (isThere(g, x, y, false)) there += x + " " + y + " right;";
                if (isThere(g, x, y, true)) there += x + " " + y + " down;";
            }
        }
        due("all that there are", there, "0 0 right;0 0 down;1 0 right;1 0 down;2 0 down;0 1 right;1 1 right;");
        says("A PIPE is FREE at first, or told OPEN, or SHUT (each at most once);");
        due("free", grid(SQUARE).pipe(0, 0, true), 0);
        due("open", grid("grid 2 2;open 0 0 down;").pipe(0, 0, true), 1);
        due("shut", grid("grid 2 2;shut 0 0 down;").pipe(0, 0, true), 2);
        for (String two : new String[] {"open open", "open shut", "shut open", "shut shut"}) {
            String[] how = two.split(" ");
            fault("grid 2 2;" + how[0] + " 0 0 down;" + how[1] + " 0 0 down;", 32);
            fault("grid 2 2;" + how[0] + " 0 0 down;" + how[1] + " 1 0 down;", -1);
            fault("grid 2 2;" + how[0] + " 0 0 down;" + how[1] + " 0 0 right;", -1);
        }
    }

    private static boolean isThere(WaterGrid g, int x, int y, boolean down) { return Check.answer(() -> g.pipe(x, y, down)).equals("0"); }

    private void stones() {
        says("a STONE is a CELL (each told at most once), all of whose PIPES are SHUT, whatever was told of them.");
        WaterGrid g = grid("grid 3 3;open 0 1 right;open 1 0 down;shut 1 1 right;stone 1 1;open 1 1 down;");
        due("above, left, right, below", g.pipe(1, 0, true) + " " + g.pipe(0, 1, false) + " " + g.pipe(1, 1, false) + " " + g.pipe(1, 1, true), "2 2 2 2");
        due("free, open, shut", g.count(2) + " " + g.count(3) + " " + g.count(4), "8 0 4");
        fault("grid 3 3;stone 1 1;stone 1 1;", 27);
        fault("grid 3 3;stone 1 1;stone 1 2;stone 2 1;", -1);
        says("At most 24 PIPES may be FREE.");
        due("24 of 40", grid(withFree(5, 5, 24, "shut")).count(2), 24);
        String more = withFree(5, 5, 25, "shut");
        fault(more, more.length());
    }

    private void faults() {
        says("THE FAULT: the first byte with which no such text goes on (a word, a number at its first byte: one too long, out of "
                + "bounds; a PIPE that there is not, or that was told already, at right, down; a STONE that was told already at "
                + "its second number);");
        fault("x", 0);
        fault("grid 3 2!", 8);
        fault("grid 3 2;stne 0 0;", 9);
        fault("grid 3 222;", 7);
        fault("grid 3 6;", 7);
        fault("grid 3 2;stone 3 1;", 15);
        fault("grid 3 2;stone 1 2;", 17);
        fault("grid 3 2;open 2 1 right;", 18);
        fault("grid 3 2;open 1 1 down;", 18);
        fault("grid 3 2;open  3 0 right;", 15);
        fault("grid 3 2;open 1 0 down;open 1 0 \n down;", 34);
        fault("grid 3 2;stone 0 1;stone 0  1;", 28);
        says("the text's length, if more must come, and where more than 24 PIPES are FREE.");
        String[] begun = {"", "grid", "grid 3", "grid 3 2", "grid 3 2;open", "grid 3 2;open 0", "grid 3 2;open 0 0",
            "grid 3 2;open 0 0 down", "grid 3 2;stone", "grid 3 2;stone 0", "grid 3 2;stone 0 0"};
        for (String text : begun) {
            fault(text, text.length());
            fault(text + " \n", text.length() + 2);
        }
        fault("grid 5 5;", 9);
        fault("grid 5 4; ", 10);
    }
}
