/** Boundary cases of grids compared, what is written and what is counted: promises 43 to 48. */
final class EdgeKept extends Edges {
    private static final String NEVER = "grid 1 3;shut 0 0 down;";

    EdgeKept(Check check, Doc doc) { super(check, doc); }

    @Override
    void run() {
        keep();
        compare();
        beats();
        write();
        octet();
        count();
    }

    private static void reread(WaterGrid g, String text) {
        Check.feed(g, text);
        g.read();
    }

    /** One grid is kept, the other one is read behind it. */
    private static WaterGrid behind(String kept, String now) {
        WaterGrid g = grid(kept);
        g.keep();
        reread(g, now);
        return g;
    }

    private void keep() {
        promise(43, "The GRID is KEPT (in place of what was): its HALF.");
        due("half", grid("grid 2 2;").keep(), 1);
        due("none", grid(NEVER).keep(), -1);
        due("at once", new WaterGrid().keep(), 0);
        due("12 of 24", grid(ONE_OF_24).keep(), 12);
        WaterGrid g = behind("grid 1 5;", "grid 2 2;");
        due("kept is the column", g.compare(), -1);
        due("in its place", g.keep() + " " + g.compare() + " " + g.beats(), "1 0 0");
        term("KEPT is a GRID as it is, to be compared.");
        g.tell(0, 0, true, 1);
        g.tell(1, 0, true, 2);
        refused("kept are four free pipes yet", STATE, g::beats);
        due("less: at once", g.compare(), -1);
        g.undo();
        g.undo();
        due("as it was", g.compare() + " " + g.beats(), "0 0");
        due("to keep is no act", g.count(6), 0);
    }

    private void compare() {
        promise(44, "Whether HALF, parted by how many PIPES are FREE, is less (NONE), as much (0) or more (1) than that of what is KEPT; none is more than any. With no PIPE FREE it is 0. NoSuchElementException: nothing is KEPT.");
        refused("nothing is kept", ELEMENT, () -> new WaterGrid().compare());
        refused("nothing is kept, of a text", ELEMENT, () -> grid("grid 2 2;").compare());
        // HALF is 1 of 2, as one of both decides; 12 of 24 likewise.
        String oneOfTwo = "grid 2 2;shut 0 0 down;shut 0 1 right;";
        due("1 of 2 and 12 of 24", behind(oneOfTwo, ONE_OF_24).compare() + " " + behind(ONE_OF_24, oneOfTwo).compare(), "0 0");
        due("1 of 4 is less than 1 of 2", behind(oneOfTwo, "grid 2 2;").compare(), -1);
        due("1 of 2 is more than 1 of 4", behind("grid 2 2;", oneOfTwo).compare(), 1);
        due("1 of 1 and 4 of 4", behind("grid 1 2;", "grid 1 5;").compare(), 0);
        // 2 of 3 and 12 of 24.
        String twoOfThree = "grid 3 2;shut 0 0 down;shut 2 0 down;shut 0 1 right;shut 1 1 right;";
        due("2 of 3 is more than 12 of 24", behind(ONE_OF_24, twoOfThree).compare() + " " + behind(twoOfThree, ONE_OF_24).compare(), "1 -1");
        due("none is more than any", behind("grid 1 2;", NEVER).compare() + " " + behind("grid 1 5;", NEVER).compare(), "1 1");
        due("any is less than none", behind(NEVER, "grid 1 2;").compare() + " " + behind(NEVER, "grid 1 5;").compare(), "-1 -1");
        due("none and none", behind(NEVER, "grid 1 4;shut 0 0 down;").compare(), 0);
        due("no pipe is free: 0 and 0", behind("grid 1 1;", "grid 1 2;open 0 0 down;").compare(), 0);
        due("no pipe is free, kept: 1 of 1 is more", behind("grid 1 1;", "grid 1 2;").compare(), 1);
        due("no pipe is free now: less", behind("grid 1 2;", "grid 1 1;").compare(), -1);
        due("no pipe is free, and half none: 0, too", behind("grid 1 1;stone 0 0;", "grid 1 1;").compare(), 0);
        due("no pipe is free, half none, kept", behind("grid 1 1;stone 0 0;", "grid 1 2;").compare(), 1);
        due("no pipe is free, half none, now", behind("grid 1 2;", "grid 1 1;stone 0 0;").compare(), -1);
        due("no pipe is free now, none is kept", behind(NEVER, "grid 1 1;").compare() + " " + behind(NEVER, "grid 1 1;stone 0 0;").compare(), "-1 -1");
        due("0 of 3 is as much as none free", behind("grid 1 1;", "grid 2 2;open 0 0 down;").compare(), 0);
        due("none, and 0 of none free", behind("grid 1 1;", NEVER).compare(), 1);
    }

    private void beats() {
        promise(45, "By JOINS k of this GRID and of what is KEPT: 0 all alike, 1 none less here, some more, 2 none more here, some less, 3 some more, some less. NoSuchElementException: nothing is KEPT; IllegalStateException: not as many PIPES are FREE in both.");
        refused("nothing is kept", ELEMENT, () -> new WaterGrid().beats());
        refused("one more", STATE, () -> behind("grid 1 2;", "grid 1 3;").beats());
        refused("one less", STATE, () -> behind("grid 1 3;", "grid 1 2;").beats());
        refused("24 and 23", STATE, () -> behind(FULL, FULL + "shut 0 0 right;").beats());
        due("none is free in both", behind("grid 1 1;", "grid 1 2;open 0 0 down;").beats(), 0);
        due("none is free, one joins at once", behind("grid 1 1;stone 0 0;", "grid 1 1;").beats() + " "
                + behind("grid 1 1;", "grid 1 1;stone 0 0;").beats(), "1 2");
        due("alike", behind("grid 2 2;", "grid 2 2;").beats(), 0);
        // Joins 0 2 3 1, and 0 0 0 1.
        String beside = "grid 2 2;shut 0 1 right;";
        String column = "grid 1 4;";
        due("more and less", behind(column, beside).beats() + " " + behind(beside, column).beats(), "1 2");
        due("24 free, the last alone is alike", behind(ONE_OF_24, FULL).beats(), 3);
        due("and about", behind(FULL, ONE_OF_24).beats(), 3);
        due("less in one k alone", behind("grid 2 2;shut 0 0 right;shut 0 1 right;", "grid 1 3;").beats(), 2);
        String second = ONE_OF_24.replace("shut 0 3 down", "open 0 3 down");
        due("24 free, a second way", behind(ONE_OF_24, second).beats() + " " + behind(second, ONE_OF_24).beats(), "1 2");
    }

    private void write() {
        term("WRITTEN: ROW by ROW, a byte 10 behind each line: CELLS (o, a STONE: #), between them the PIPE right (- OPEN, a blank SHUT, . FREE); behind each ROW but the last a line of PIPES down (| OPEN, a blank SHUT, . FREE), one blank between.");
        promise(46, "WRITTEN: how many bytes.");
        due("one cell", new WaterGrid().write(), 2);
        for (int columns = 1; columns <= 5; columns++) {
            for (int rows = 1; rows <= 5; rows++) {
                WaterGrid g = grid(sized(columns, rows));
                due("bytes of " + columns + " " + rows, g.write(), 2 * columns * (2 * rows - 1));
                due("counted", g.count(7), 2 * columns * (2 * rows - 1));
                due("the last byte", g.octet(g.count(7) - 1), 10);
            }
        }
        due("all signs", Check.written(grid("grid 3 2;open 0 0 right;shut 1 0 right;open 0 0 down;shut 1 0 down;stone 2 1;")),
                "o-o o\n|    \no.o #\n");
        due("stones alone", Check.written(grid("grid 2 2;stone 0 0;stone 1 0;stone 0 1;stone 1 1;open 0 0 right;")), "# #\n   \n# #\n");
        WaterGrid g = grid("grid 2 1;");
        g.write();
        due("to write is no act", g.count(6) + " " + g.undo(), "0 -1");
    }

    private void octet() {
        promise(47, "Byte k of what was WRITTEN latest; NONE without.");
        WaterGrid g = grid("grid 5 3;");
        for (int k : new int[] {-1, 0, 1, 89, 90, LEAST, MOST}) due("nothing was written: " + k, g.octet(k), -1);
        due("50 bytes", g.write(), 50);
        due("the first and the last", g.octet(0) + " " + g.octet(49), "111 10");
        for (int k : new int[] {-1, 50, 51, 89, 90, 91, LEAST, MOST}) due("there is no byte " + k, g.octet(k), -1);
        g.put(0, 0, true);
        due("what was written, not what is", g.octet(0), 'o' + 0);
        reread(g, "grid 1 1;");
        due("behind a text, too", g.octet(49) + " " + g.count(7), "10 50");
        due("less is written", g.write(), 2);
        due("the latest alone", g.octet(1) + " " + g.octet(2) + " " + g.octet(49), "10 -1 -1");
        WaterGrid most = grid("grid 5 5;stone 1 1;stone 1 3;stone 3 1;stone 3 3;");
        due("the most bytes", most.write() + " " + most.octet(89) + " " + most.octet(90), "90 10 -1");
    }

    private void count() {
        promise(48, "0 COLUMNS, 1 ROWS, 2 FREE PIPES, 3 OPEN ones, 4 SHUT ones, 5 STONES, 6 ACTS that can be undone, 7 bytes WRITTEN. NONE for another what.");
        WaterGrid g = grid("grid 3 2;open 0 0 right;shut 1 0 right;open 2 0 down;stone 2 1;");
        g.turn(0);
        g.turn(0);
        g.write();
        StringBuilder all = new StringBuilder();
        for (int what = -1; what <= 8; what++) all.append(g.count(what)).append(' ');
        due("each", all, "-1 3 2 3 1 3 1 2 18 -1 ");
        for (int what : FAR) due("another " + what, g.count(what), -1);
        WaterGrid stones = grid("grid 5 5;" + "stone 0 0;stone 2 0;stone 4 0;stone 1 1;stone 3 1;stone 0 2;stone 2 2;stone 4 2;"
                + "stone 1 3;stone 3 3;stone 0 4;stone 2 4;stone 4 4;");
        due("every pipe by a stone", stones.count(2) + " " + stones.count(3) + " " + stones.count(4) + " " + stones.count(5), "0 0 40 13");
    }
}
