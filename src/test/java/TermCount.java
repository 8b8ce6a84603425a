/** Choices, joins, states, the dual. */
final class TermCount extends Terms {
    /** Water goes down at the left, right below, and up again at the right, to the middle row alone. */
    private static final String BENT = "grid 2 3;shut 0 0 right;shut 1 0 down;shut 0 1 right;open 0 0 down;open 0 1 down;"
            + "open 0 2 right;open 1 1 down;";

    TermCount(Check check, Doc doc) { super(check, doc); }

    @Override
    void sentences() {
        choices();
        wet();
        states();
        places();
        parted();
        bars();
    }

    private void choices() {
        says("==== 2. A CHOICE tells of each FREE PIPE whether it is open.");
        WaterGrid g = grid("grid 2 2;open 0 0 right;");
        due("of three free ones", g.choices(0) + " " + g.choices(1) + " " + g.choices(2) + " " + g.choices(3), "1 3 3 1");
        due("not of an open one, nor of a shut one", grid("grid 2 2;open 0 0 right;shut 0 0 down;").choices(1), 2);
        says("CELLS are JOINED, if open (chosen so, or OPEN) PIPES lead from one to the other.");
        WaterGrid row = grid("grid 3 2;shut 0 0 down;shut 1 0 down;shut 2 0 down;shut 0 0 right;shut 1 0 right;open 0 1 right;");
        due("by an open one", row.pair(0, 1, 0), 1);
        due("by an open one and one that is not chosen", row.pair(0, 2, 0), 0);
        due("by an open one and a chosen one", row.pair(0, 2, 1), 1);
        WaterGrid above = grid("grid 2 3;shut 0 0 right;shut 0 0 down;shut 1 0 down;open 0 1 down;open 1 1 down;shut 0 2 right;");
        due("through the row above", above.pair(0, 1, 1), 1);
        due("not where it is shut there", above.pair(0, 1, 0), 0);
    }

    private void wet() {
        says("WET is who is JOINED to a CELL of the TOP ROW that is no STONE (these, too).");
        due("the top row, nothing open", grid("grid 3 2;").drawn(0, 0, 1, 1), 3);
        due("without a stone of it", grid("grid 3 2;stone 1 0;").drawn(0, 0, 1, 1), 2);
        due("all of it stones", grid("grid 2 2;stone 0 0;stone 1 0;open 0 1 right;").drawn(0, 1, 1, 1), 0);
        due("up again", grid(BENT).drawn(0, 0, 1, 1), 6);
        says("It JOINS, if a CELL of the last ROW is WET.");
        due("the left one", grid("grid 2 2;open 0 0 down;").joins(0), 1);
        due("the right one", grid("grid 2 2;open 1 0 down;").joins(0), 1);
        due("none", grid("grid 2 3;open 0 0 down;open 1 0 down;open 0 2 right;").joins(0), 0);
        due("with one row at once", grid("grid 2 1;").joins(0), 1);
        says("JOINS k: in how many CHOICES with k open PIPES it JOINS.");
        due("a column", joins(grid("grid 1 4;")), "0 0 0 1");
        due("two by two: less than all only where both pipes down are shut", joins(grid(SQUARE)), "0 2 5 4 1");
        due("open ones are not counted", joins(grid("grid 1 4;open 0 1 down;")), "0 0 1");
    }

    private void states() {
        says("STATE of a ROW by a CHOICE of all PIPES down to it, and in it: of each of its CELLS, from the left: 0, if it is WET "
                + "by these PIPES; 9 of a STONE; else 1, 2, .. , the same of those that are JOINED by these PIPES, as they come first.");
        due("each kind", states(grid("grid 5 2;shut 0 0 down;open 1 0 down;stone 2 1;shut 3 0 down;shut 4 0 down;open 3 1 right;"
                + "shut 0 1 right;"), 1), "10922");
        due("as they come first", states(grid("grid 3 3;shut 0 0 down;shut 1 0 down;shut 2 0 down;open 0 1 down;open 2 1 down;"
                + "open 0 1 right;open 1 1 right;shut 1 1 down;shut 0 2 right;shut 1 2 right;"), 2), "121");
        due("not by the pipes below", states(grid(BENT), 1), "01");
        due("by them in the row below", states(grid(BENT), 2), "00");
        says("STATES of a ROW are all that come by some CHOICE of these PIPES, by their numbers as digits, the least first;");
        due("two cells", states(grid(SQUARE), 1), "00 01 10 11 12");
        due("a stone's 9 is a digit like others", states(grid("grid 3 2;stone 1 1;"), 1), "090 091 190 192");
        due("no pipe right", states(grid("grid 2 2;shut 0 1 right;"), 1), "00 01 10 12");
        due("an open one", states(grid("grid 2 2;open 0 1 right;"), 1), "00 11");
        says("WAYS to one: how many such CHOICES with n open PIPES.");
        WaterGrid g = grid(SQUARE);
        // By the pipe right above, which changes nothing, each comes once with it and once without it.
        due("12: no pipe down, none right", g.ways(1, 4, 0) + " " + g.ways(1, 4, 1) + " " + g.ways(1, 4, 2), "1 1 0");
        due("11: no pipe down, one right", g.ways(1, 3, 0) + " " + g.ways(1, 3, 1) + " " + g.ways(1, 3, 2), "0 1 1");
        due("of the pipes down to row 0", g.ways(0, 0, 0) + " " + g.ways(0, 0, 1) + " " + g.ways(0, 0, 2), "1 1 0");
    }

    private void places() {
        says("THE DUAL (of ROWS 2 or more): its CELLS are the places between ROWS y and y + 1, between COLUMNS x and x + 1, and "
                + "those at the LEFT of COLUMN 0, at the RIGHT of the last one;");
        WaterGrid g = grid("grid 2 3;");
        String across = "";
        String along = "";
        for (int y = -1; y <= 2; y++) {
            for (int i = -1; i <= 3; i++) {
                if (isThere(g, y, i, true)) across += y + "" + i + " ";
                if (isThere(g, y, i, false)) along += y + "" + i + " ";
            }
        }
        due("places with one at their right", across, "00 01 10 11 ");
        due("places with one below the next row", along, "00 01 02 ");
        refused("one row has none", INDEX, () -> grid("grid 2 1;").between(0, 0, true));
    }

    private static boolean isThere(WaterGrid g, int y, int i, boolean down) {
        return !Check.answer(() -> g.between(y, i, down)).contains("Exception");
    }

    private void parted() {
        says("each PIPE down, from (x, y), parts two that lie beside each other between these ROWS; each PIPE right, from (x, y), but "
                + "of the first and of the last ROW, parts the one above it from the one below it.");
        String free = partings(grid("grid 3 4;"));
        for (Pipe p : pipes(3, 4)) {
            WaterGrid g = grid("grid 3 4;");
            g.tell(p.x(), p.y(), p.down(), 1);
            StringBuilder want = new StringBuilder(free);
            int at = p.down() ? free.indexOf("d" + p.y() + p.x()) : free.indexOf("r" + (p.y() - 1) + (p.x() + 1));
            if (p.down() || p.y() > 0 && p.y() < 3) want.setCharAt(at + 3, '2');
            due("what " + p.told("open") + " parts", partings(g), want);
        }
        says("Where a PIPE is not open, both are one.");
        WaterGrid mixed = grid("grid 3 2;open 0 0 down;shut 1 0 down;");
        due("always parted, never, by chance", mixed.between(0, 0, true) + " " + mixed.between(0, 1, true) + " " + mixed.between(0, 2, true), "2 1 0");
        due("one where it is shut", grid("grid 1 2;shut 0 0 down;").bars(0), 1);
        due("one where it is not chosen", grid("grid 1 2;").bars(1), 1);
        due("not one where it is open", grid("grid 1 2;open 0 0 down;").bars(0), 0);
        due("not one where it is chosen", grid("grid 1 2;").bars(0), 0);
    }

    /** How each place is parted from its neighbours: d and r, then column, row and answer. */
    private static String partings(WaterGrid g) {
        StringBuilder all = new StringBuilder();
        for (int y = 0; y < g.count(1) - 1; y++) {
            for (int i = 0; i <= g.count(0); i++) {
                if (i < g.count(0)) all.append('d').append(y).append(i).append(g.between(y, i, true)).append(' ');
                if (y < g.count(1) - 2) all.append('r').append(y).append(i).append(g.between(y, i, false)).append(' ');
            }
        }
        return all.toString();
    }

    private void bars() {
        says("BARS k: in how many CHOICES with k PIPES that are not open (FREE ones) some place at the LEFT is one with some place "
                + "at the RIGHT, through others;");
        due("two by two: where both pipes down are not open", bars(grid(SQUARE)), "0 0 1 2 1");
        due("a column: where any one is not", bars(grid("grid 1 3;")), "0 2 1");
        due("shut ones are not counted", bars(grid("grid 2 2;shut 0 0 down;")), "0 1 2 1");
        says("the places at the LEFT are one anyway, those at the RIGHT, too.");
        // From the left of rows 0 and 1 to the middle, from the middle of rows 1 and 2 to the right.
        String steps = "grid 2 3;open 1 0 down;open 0 1 down;shut 0 0 down;shut 1 1 down;shut 0 0 right;shut 0 2 right;";
        due("by the pipe right between", bars(grid(steps)), "0 1");
        due("from the left of any rows", grid("grid 2 3;open 0 0 down;open 1 0 down;shut 0 1 down;shut 1 1 down;open 0 1 right;").bars(0), 1);
        says("None with one ROW.");
        due("three in a row", bars(grid("grid 3 1;")), "0 0 0");
        due("stones in a row", bars(grid("grid 2 1;stone 0 0;stone 1 0;")), "0");
    }
}
