/** Boundary cases of what is counted by so many open pipes: promises 13 to 27. */
final class EdgeCount extends Edges {
    /** The first joins, a bit of the water: two by two, four free pipes. */
    private static final String SQUARE = "grid 2 2;";
    private static final String COLUMN = "grid 1 5;";

    EdgeCount(Check check, Doc doc) { super(check, doc); }

    @Override
    void run() {
        wetAtTheTop();
        joins();
        bars();
        choices();
        rows();
        states();
        ways();
        wet();
        reaches();
        parted();
        pair();
        tried();
        just();
        likeliest();
        between();
        alike();
    }

    private static String joinsOf(WaterGrid g) {
        StringBuilder text = new StringBuilder();
        for (int k = 0; k <= g.count(2); k++) text.append(g.joins(k)).append(' ');
        return text.toString().trim();
    }

    private void wetAtTheTop() {
        term("WET is who is JOINED to a CELL of the TOP ROW that is no STONE (these, too). It JOINS, if a CELL of the last ROW is WET.");
        due("one row joins at once", joinsOf(grid("grid 3 1;")), "1 2 1");
        due("one cell", joinsOf(new WaterGrid()), "1");
        due("one stone", joinsOf(grid("grid 1 1;stone 0 0;")), "0");
        due("one row, one cell no stone", joinsOf(grid("grid 3 1;stone 0 0;stone 2 0;")), "1");
        due("one row of stones", joinsOf(grid("grid 2 1;stone 0 0;stone 1 0;")), "0");
        due("a top row of stones", joinsOf(grid("grid 2 2;stone 0 0;stone 1 0;")), "0 0");
        due("a last row of stones", joinsOf(grid("grid 2 2;stone 0 1;stone 1 1;")), "0 0");
        due("a stone at the top", joinsOf(grid("grid 2 2;stone 0 0;")), "0 1 1");
        due("a stone at the bottom", joinsOf(grid("grid 2 2;stone 0 1;")), "0 1 1");
    }

    private void joins() {
        promise(13, "JOINS k (0 of what k there is not).");
        due("two by two", joinsOf(grid(SQUARE)), "0 2 5 4 1");
        noneBeyond("four free", 4, grid(SQUARE)::joins);
        noneBeyond("none free", 0, new WaterGrid()::joins);
        noneBeyond("one free", 1, grid("grid 2 1;")::joins);
        WaterGrid full = grid(FULL);
        due("24 of 24", full.joins(24), 1);
        due("23 of 24", full.joins(23), 24);
        due("a column's three", full.joins(3), 4);
        due("less than a column", full.joins(2), 0);
        noneBeyond("24 free", 24, full::joins);
        full.tell(0, 0, false, 1);
        due("23 of 23", full.joins(23), 1);
        noneBeyond("23 free, when 24 were", 23, full::joins);
    }

    private void bars() {
        promise(14, "BARS k (0 of what k there is not).");
        WaterGrid g = grid(SQUARE);
        due("two by two", g.bars(0) + " " + g.bars(1) + " " + g.bars(2) + " " + g.bars(3) + " " + g.bars(4), "0 0 1 2 1");
        noneBeyond("four free", 4, g::bars);
        WaterGrid full = grid(FULL);
        due("24 of 24", full.bars(24), 1);
        due("a line between rows", full.bars(4), 3);
        due("less", full.bars(3), 0);
        noneBeyond("24 free", 24, full::bars);
        due("none free, shut", grid("grid 1 2;shut 0 0 down;").bars(0), 1);
        due("none free, open", grid("grid 1 2;open 0 0 down;").bars(0), 0);
        noneBeyond("none free", 0, grid("grid 1 2;shut 0 0 down;")::bars);
        term("some place at the LEFT is one with some place at the RIGHT, through others; the places at the LEFT are one anyway, those at the RIGHT, too.");
        // The way goes below the open pipe down: by the pipe right between both rows of places, which is not open.
        String bent = "grid 2 3;open 0 0 down;open 1 1 down;shut 1 0 down;shut 0 1 down;";
        due("by a shut pipe right of the row between", grid(bent + "shut 0 1 right;").bars(0), 1);
        due("not by an open one", grid(bent + "open 0 1 right;").bars(0), 0);
        due("pipes of the first and the last row part nothing", grid(bent + "open 0 1 right;shut 0 0 right;shut 0 2 right;").bars(0), 0);
        term("None with one ROW.");
        for (String text : new String[] {"grid 1 1;", "grid 1 1;stone 0 0;", "grid 2 1;", "grid 5 1;", "grid 2 1;shut 0 0 right;",
            "grid 2 1;stone 0 0;stone 1 0;"}) {
            for (int k = -1; k <= 5; k++) due("bars " + k + " of " + text, grid(text).bars(k), 0);
        }
        due("with two rows some", grid("grid 1 2;").bars(1), 1);
    }

    private void choices() {
        promise(15, "All CHOICES with k open PIPES (0 of what k there is not).");
        WaterGrid g = grid(SQUARE);
        due("two by two", g.choices(0) + " " + g.choices(1) + " " + g.choices(2) + " " + g.choices(3) + " " + g.choices(4), "1 4 6 4 1");
        noneBeyond("four free", 4, g::choices);
        due("none free", new WaterGrid().choices(0), 1);
        noneBeyond("none free", 0, new WaterGrid()::choices);
        WaterGrid full = grid(FULL);
        due("the ends", full.choices(0) + " " + full.choices(1) + " " + full.choices(23) + " " + full.choices(24), "1 24 24 1");
        due("the most", full.choices(12) + " " + full.choices(11), "2704156 2496144");
        noneBeyond("24 free", 24, full::choices);
    }

    interface Rowed { Object on(WaterGrid g, int row); }

    private void rowsOf(String name, Rowed call) {
        for (int rows = 1; rows <= 5; rows++) {
            WaterGrid g = grid("grid 2 " + rows + ";");
            for (int row = -2; row <= rows + 1; row++) {
                int at = row;
                boolean there = row >= 0 && row < rows;
                due(name + " of row " + row, Check.answer(() -> call.on(g, at) != null), there ? true : "IndexOutOfBoundsException");
            }
        }
        for (int far : FAR) refused(name + " of row " + far, INDEX, () -> call.on(grid(SQUARE), far));
        // There are five columns, and two rows alone.
        refused(name + " of a row that were a column", INDEX, () -> call.on(grid("grid 5 2;"), 2));
    }

    private void rows() {
        term("IndexOutOfBoundsException: there is no such CELL, ROW, PIPE.");
        rowsOf("states", WaterGrid::states);
        rowsOf("state", (g, row) -> g.state(row, 0, 0));
        rowsOf("ways", (g, row) -> g.ways(row, 0, 0));
        rowsOf("reaches", (g, row) -> g.reaches(row, 0));
        rowsOf("parted", (g, row) -> g.parted(row, 0));
        rowsOf("likeliest", (g, row) -> g.likeliest(row, true));
        rowsOf("likeliest", (g, row) -> g.likeliest(row, false));
    }

    private static String digits(WaterGrid g, int row, int k) {
        StringBuilder text = new StringBuilder();
        for (int x = 0; x < g.count(0); x++) text.append(g.state(row, k, x));
        return text.toString();
    }

    private void states() {
        promise(16, "How many STATES a ROW has.");
        due("the top row, by whatever is open", grid("grid 5 3;").states(0), 1);
        due("a top row of stones", grid("grid 2 2;stone 0 0;stone 1 0;").states(0), 1);
        due("one cell", new WaterGrid().states(0), 1);
        due("below", grid(SQUARE).states(1), 5);
        due("all of three cells that do not cross", grid("grid 3 4;").states(3), 14);
        due("all of four cells that do not cross", grid(FULL).states(3), 42);
        due("three apart by chance", grid("grid 3 2;shut 0 1 right;shut 1 1 right;").states(1), 8);
        promise(17, "The number of CELL x in the k-th STATE of a ROW. IndexOutOfBoundsException: ROW, CELL; NoSuchElementException: there is no such STATE.");
        WaterGrid g = grid(SQUARE);
        for (int k = 0; k < 5; k++) due("the k-th", digits(g, 1, k), "00 01 10 11 12".split(" ")[k]);
        for (int k : new int[] {-1, 5, 6, 131, 132, 133}) refused("state " + k, ELEMENT, () -> g.state(1, k, 0));
        for (int k : FAR) refused("state " + k, ELEMENT, () -> g.state(1, k, 0));
        refused("the top row has one alone", ELEMENT, () -> g.state(0, 1, 0));
        for (int x : new int[] {-1, 2, 3, 5, LEAST, MOST}) refused("cell " + x, INDEX, () -> g.state(1, 0, x));
        for (int columns = 1; columns <= 5; columns++) {
            WaterGrid wide = grid("grid " + columns + " 1;");
            int last = columns - 1;
            due("the last cell", wide.state(0, 0, last), 0);
            refused("behind it", INDEX, () -> wide.state(0, 0, last + 1));
        }
        term("0, if it is WET by these PIPES; 9 of a STONE; else 1, 2, .. , the same of those that are JOINED by these PIPES, as they come first.");
        due("stones are no numbers", digits(grid("grid 5 2;stone 1 1;stone 3 1;open 2 0 down;shut 0 0 down;shut 4 0 down;"), 1, 0), "19092");
        due("five numbers, and a stone in the next row", digits(grid("grid 5 3;stone 0 2;shut 0 0 down;shut 1 0 down;shut 2 0 down;shut 3 0 down;shut 4 0 down;"
                + "shut 0 1 right;shut 1 1 right;shut 2 1 right;shut 3 1 right;"), 1, 0), "12345");
        WaterGrid ahead = grid("grid 3 2;stone 0 1;shut 1 0 down;shut 2 0 down;");
        due("a stone ahead of all numbers", digits(ahead, 1, 0) + " " + digits(ahead, 1, 1), "911 912");
        due("five stones", digits(grid("grid 5 1;stone 0 0;stone 1 0;stone 2 0;stone 3 0;stone 4 0;"), 0, 0), "99999");
        due("a row of one state by these pipes, wet from below alone",
                digits(grid("grid 2 3;open 0 0 down;open 0 1 down;open 0 2 right;open 1 1 down;shut 0 1 right;shut 1 0 down;"), 1, 0), "01");
    }

    private void ways() {
        promise(18, "WAYS to the k-th STATE of a ROW with n open PIPES (0 of what n there is not). NoSuchElementException: there is no such STATE.");
        WaterGrid g = grid(SQUARE);
        due("both wet", g.ways(1, 0, 1) + " " + g.ways(1, 0, 2) + " " + g.ways(1, 0, 3) + " " + g.ways(1, 0, 4), "0 3 4 1");
        due("both apart", g.ways(1, 4, 0) + " " + g.ways(1, 4, 1) + " " + g.ways(1, 4, 2), "1 1 0");
        noneBeyond("four free", 4, n -> g.ways(1, 0, n));
        due("the top row's pipe alone", g.ways(0, 0, 0) + " " + g.ways(0, 0, 1), "1 1");
        noneBeyond("one free in the top row", 1, n -> g.ways(0, 0, n));
        for (int k : new int[] {-1, 5, 6, 132, LEAST, MOST}) {
            refused("state " + k, ELEMENT, () -> g.ways(1, k, 0));
            refused("state " + k + ", and no such n", ELEMENT, () -> g.ways(1, k, 99));
        }
        refused("the top row has one alone", ELEMENT, () -> g.ways(0, 1, 0));
        WaterGrid full = grid(FULL);
        due("all open", full.ways(3, 0, 24), 1);
        noneBeyond("24 free", 24, n -> full.ways(3, 0, n));
        due("all shut", full.ways(3, 41, 0), 1);
    }

    private void wet() {
        promise(19, "In how many CHOICES with k open PIPES just these CELLS (bits) of the last ROW are WET. IllegalArgumentException: the set is none.");
        for (int columns = 1; columns <= 5; columns++) {
            WaterGrid g = grid("grid " + columns + " 1;");
            int all = (1 << columns) - 1;
            due("all of " + columns, g.wet(all, 0), 1);
            due("none of " + columns, g.wet(0, 0), 0);
            for (int set : new int[] {-1, all + 1, all + 2, LEAST, MOST, 32, 64, 1 << 30}) {
                refused("set " + set + " of " + columns, ARGUMENT, () -> g.wet(set, 0));
            }
            refused("set and k are none", ARGUMENT, () -> g.wet(all + 1, -1));
        }
        WaterGrid g = grid(SQUARE);
        due("the lowest bit is the first cell", grid("grid 2 2;shut 1 0 down;shut 0 1 right;").wet(1, 1), 1);
        due("just these", g.wet(1, 2) + " " + g.wet(2, 2) + " " + g.wet(3, 2) + " " + g.wet(0, 2), "1 1 3 1");
        noneBeyond("both", 4, k -> g.wet(3, k));
        noneBeyond("none of both", 4, k -> g.wet(0, k));
        due("a stone is never wet", grid("grid 2 1;stone 0 0;").wet(3, 0) + grid("grid 2 1;stone 0 0;").wet(1, 0), 0);
        due("but for the stone", grid("grid 2 1;stone 0 0;").wet(2, 0), 1);
        WaterGrid full = grid(FULL);
        due("all open", full.wet(15, 24), 1);
        noneBeyond("24 free", 24, k -> full.wet(15, k));
    }

    private void reaches() {
        promise(20, "In how many CHOICES of the PIPES down to a ROW and in it, k of them open, some CELL of it is WET (0 of what k there is not).");
        WaterGrid g = grid("grid 2 3;");
        due("the top row", g.reaches(0, 0) + " " + g.reaches(0, 1), "1 1");
        noneBeyond("one pipe in the top row", 1, k -> g.reaches(0, k));
        due("four down to the second", g.reaches(1, 0) + " " + g.reaches(1, 1) + " " + g.reaches(1, 4), "0 2 1");
        noneBeyond("four down to the second", 4, k -> g.reaches(1, k));
        due("all seven", g.reaches(2, 7), 1);
        noneBeyond("all seven", 7, k -> g.reaches(2, k));
        due("a top row of stones", grid("grid 1 2;stone 0 0;").reaches(0, 0), 0);
        WaterGrid full = grid(FULL);
        due("24 open", full.reaches(3, 24) + " " + full.reaches(2, 17), "1 1");
        noneBeyond("24 free", 24, k -> full.reaches(3, k));
        due("no such pipe above", full.reaches(2, 18), 0);
    }

    private void parted() {
        promise(21, "In how many of these CHOICES in all the ROW's CELLS that are not WET, and no STONES, are of just n unlike parts (the greatest number of its STATE; 0: none).");
        WaterGrid g = grid(SQUARE);
        due("all are wet", g.parted(1, 0), 8);
        due("one", g.parted(1, 1), 6);
        due("two", g.parted(1, 2), 2);
        for (int n : new int[] {-1, -2, 3, 4, 5, 6, 9, LEAST, MOST}) due("parts " + n, g.parted(1, n), 0);
        WaterGrid wide = grid("grid 5 2;");
        due("five of five", wide.parted(1, 5), 16);
        due("six of five", wide.parted(1, 6), 0);
        due("the top row has none", wide.parted(0, 0) + " " + wide.parted(0, 1), "16 0");
        due("stones are no parts", grid("grid 3 1;stone 0 0;stone 1 0;stone 2 0;").parted(0, 0), 1);
        for (int n : new int[] {-3, -1, 1, 3, 9}) due("parts " + n + " of stones", grid("grid 3 1;stone 0 0;stone 1 0;stone 2 0;").parted(0, n), 0);
        due("beside a stone", grid("grid 3 2;stone 1 1;").parted(1, 2), 4);
    }

    private void pair() {
        promise(22, "In how many CHOICES with k open PIPES two CELLS of the last ROW are JOINED, or both WET (one twice: it is no STONE).");
        WaterGrid g = grid(SQUARE);
        due("two", g.pair(0, 1, 0) + " " + g.pair(0, 1, 1) + " " + g.pair(1, 0, 2) + " " + g.pair(0, 1, 4), "0 1 4 1");
        due("one twice", g.pair(0, 0, 0) + " " + g.pair(1, 1, 2) + " " + g.pair(1, 1, 4), "1 6 1");
        noneBeyond("two", 4, k -> g.pair(0, 1, k));
        noneBeyond("one twice", 4, k -> g.pair(1, 1, k));
        for (int x : new int[] {-1, 2, 3, 5, LEAST, MOST}) {
            refused("cell " + x, INDEX, () -> g.pair(x, 0, 0));
            refused("other " + x, INDEX, () -> g.pair(0, x, 0));
            refused("both " + x, INDEX, () -> g.pair(x, x, 0));
        }
        due("the last of five", grid("grid 5 1;").pair(0, 4, 0), 1);
        WaterGrid stony = grid("grid 3 1;stone 0 0;stone 2 0;");
        due("a stone twice", stony.pair(0, 0, 0), 0);
        due("a stone and a cell", stony.pair(0, 1, 0) + stony.pair(1, 0, 0), 0);
        due("two stones", stony.pair(0, 2, 0) + stony.pair(2, 0, 0), 0);
        due("no stone twice", stony.pair(1, 1, 0), 1);
        due("both wet, not joined", grid("grid 2 1;shut 0 0 right;").pair(0, 1, 0), 1);
        due("joined, not wet", grid("grid 2 2;shut 0 0 down;shut 1 0 down;open 0 1 right;").pair(0, 1, 0), 1);
    }

    private void tried() {
        promise(23, "By trying: the i-th CHOICE (bits of FREE PIPES by numbers, the lowest number the lowest bit) with k open PIPES that JOINS, the least first; NONE behind. IllegalStateException: more than 12 are FREE.");
        WaterGrid g = grid(SQUARE);
        String[] due = {"-1", "2 4 -1", "3 5 6 10 12 -1", "7 11 13 14 -1", "15 -1"};
        for (int k = 0; k <= 4; k++) {
            StringBuilder got = new StringBuilder();
            for (int i = 0; i <= g.joins(k); i++) got.append(i > 0 ? " " : "").append(g.tried(k, i));
            due("all with " + k, got, due[k]);
            due("far behind", g.tried(k, MOST), -1);
            due("ahead of the first", g.tried(k, -1) + " " + g.tried(k, LEAST), "-1 -1");
        }
        for (int k : new int[] {-1, 5, 12, 13, 32, LEAST, MOST}) due("no such k " + k, g.tried(k, 0), -1);
        due("no pipe is free, and it joins", new WaterGrid().tried(0, 0) + " " + new WaterGrid().tried(0, 1), "0 -1");
        due("no pipe is free, and it does not", grid("grid 1 1;stone 0 0;").tried(0, 0), -1);
        due("told ones have no bit", grid("grid 2 2;open 0 0 right;").tried(1, 0), 1);
        WaterGrid twelve = grid("grid 3 3;");
        due("12 are free", twelve.count(2) + " " + twelve.tried(12, 0) + " " + twelve.tried(12, 1), "12 4095 -1");
        WaterGrid thirteen = grid("grid 2 5;");
        due("13 are free", thirteen.count(2), 13);
        refused("13 are free", STATE, () -> thirteen.tried(0, 0));
        refused("13 are free, and there is none such", STATE, () -> thirteen.tried(-1, -1));
        refused("24 are free", STATE, () -> grid(FULL).tried(3, 0));
        thirteen.tell(0, 0, false, 2);
        due("12 again", thirteen.tried(12, 0), 4095);
        thirteen.undo();
        refused("13 again", STATE, () -> thirteen.tried(12, 0));
    }

    private void just() {
        promise(24, "By trying: how many CHOICES (k NONE), or the k-th, the least first (NONE behind), JOIN, and do not with any one of their open PIPES shut. IllegalStateException: more than 12 are FREE.");
        WaterGrid g = grid(SQUARE);
        due("how many", g.just(WaterGrid.NONE), 2);
        due("each", g.just(0) + " " + g.just(1) + " " + g.just(2) + " " + g.just(MOST), "2 4 -1 -1");
        due("below NONE", g.just(-2) + " " + g.just(LEAST), "-1 -1");
        due("with nothing open", new WaterGrid().just(-1) + " " + new WaterGrid().just(0) + " " + new WaterGrid().just(1), "1 0 -1");
        WaterGrid open = grid("grid 2 2;open 0 0 down;");
        due("none of the others is needed", open.just(-1) + " " + open.just(0) + " " + open.just(1), "1 0 -1");
        WaterGrid never = grid("grid 1 3;shut 0 0 down;");
        due("none joins", never.just(-1) + " " + never.just(0), "0 -1");
        WaterGrid twelve = grid("grid 3 3;");
        // Numbers 1, 3, 5, 11, 13, 15 go down: bits 1, 3, 4, 6, 8, 9. The least: down, and down again.
        due("12 are free", twelve.just(-1) + " " + twelve.just(0) + " " + twelve.just(9), "9 66 -1");
        refused("13 are free", STATE, () -> grid("grid 2 5;").just(0));
        refused("13 are free", STATE, () -> grid("grid 2 5;").just(-1));
        refused("24 are free", STATE, () -> grid(FULL).just(-1));
    }

    private void likeliest() {
        term("LIKELIEST STATE of a ROW: the one to which the most CHOICES lead in all (of several the first).");
        promise(25, "LIKELIEST STATE of a ROW: its place among STATES (choices false), or how many CHOICES lead to it (true).");
        due("of two alike the first", likeliest("grid 1 2;", 1), "0 1");
        due("of three, the last two alike", likeliest("grid 2 3;shut 0 1 down;", 2), "2 22");
        due("the second of two", likeliest("grid 1 3;", 2), "1 3");
        due("the only one", likeliest("grid 1 1;", 0), "0 1");
        due("the only one, of stones", likeliest("grid 1 1;stone 0 0;", 0), "0 1");
        due("all lead to one", likeliest(FULL, 0), "0 8");
        due("of eight alike the first", likeliest("grid 3 2;shut 0 1 right;shut 1 1 right;", 1), "0 4");
    }

    private static String likeliest(String text, int row) {
        WaterGrid g = grid(text);
        return g.likeliest(row, false) + " " + g.likeliest(row, true);
    }

    private void between() {
        promise(26, "Of a place of THE DUAL, column y (between ROWS y and y + 1) and row i (0 at the LEFT, then between COLUMNS i - 1 and i, the number of COLUMNS at the RIGHT): how it is parted from the place below it (down; between the next ROWS: not down): 0 by chance, 1 never, 2 always, or there is nothing between both. IndexOutOfBoundsException: there is no such place, or none beyond.");
        for (int columns = 1; columns <= 5; columns++) {
            for (int rows = 1; rows <= 5; rows++) {
                for (int y = -1; y <= rows; y++) {
                    WaterGrid g = grid(sized(columns, rows));
                    for (int i = -1; i <= columns + 1; i++) places(g, y, i, columns, rows);
                }
            }
        }
        WaterGrid g = grid("grid 2 3;");
        for (int far : FAR) {
            for (boolean down : new boolean[] {false, true}) {
                refused("column " + far, INDEX, () -> g.between(far, 0, down));
                refused("row " + far, INDEX, () -> g.between(0, far, down));
                refused("both " + far, INDEX, () -> g.between(far, far, down));
            }
        }
        due("by chance", g.between(0, 1, false) + " " + g.between(1, 1, true), "0 0");
        g.tell(0, 1, false, 1);
        g.tell(1, 1, true, 1);
        due("open: parted always", g.between(0, 1, false) + " " + g.between(1, 1, true), "2 2");
        g.tell(0, 1, false, 2);
        g.tell(1, 1, true, 2);
        due("shut: never", g.between(0, 1, false) + " " + g.between(1, 1, true), "1 1");
        g.put(0, 2, true);
        due("shut by a stone", g.between(1, 0, true), 1);
        due("nothing between both, at the left and the right", g.between(0, 0, false) + " " + g.between(0, 2, false), "2 2");
    }

    /** What parts two places: the pipe that is told so in the terms, shut ones never, free ones by chance. */
    private void places(WaterGrid g, int y, int i, int columns, int rows) {
        boolean place = y >= 0 && y <= rows - 2 && i >= 0 && i <= columns;
        String at = " " + y + " " + i + " of " + columns + " " + rows;
        boolean below = place && i + 1 <= columns;
        due("below" + at, Check.answer(() -> g.between(y, i, true)),
                below ? (g.pipe(i, y, true) == 0 ? 0 : 1) : "IndexOutOfBoundsException");
        boolean next = place && y + 1 <= rows - 2;
        boolean side = i == 0 || i == columns;
        due("between the next rows" + at, Check.answer(() -> g.between(y, i, false)),
                next ? (side ? 2 : g.pipe(i - 1, y + 1, false) == 0 ? 0 : 1) : "IndexOutOfBoundsException");
    }

    private void alike() {
        promise(27, "Whether JOINS k and BARS k are alike for all k.");
        due("one pipe down", grid("grid 1 2;").alike(), true);
        due("two pipes down", grid("grid 1 3;").alike(), false);
        due("no pipe is free, open", grid("grid 1 2;open 0 0 down;").alike(), false);
        due("no pipe is free, shut", grid("grid 1 2;shut 0 0 down;").alike(), false);
        due("one row, which joins", new WaterGrid().alike(), false);
        due("one row, which does not: none of both", grid("grid 1 1;stone 0 0;").alike(), true);
        due("two by two, a pipe right between", grid("grid 2 3;shut 0 0 right;shut 0 2 right;").alike(), true);
        due("and a pipe more that never decides", grid("grid 2 3;shut 0 0 right;").alike(), true);
        due("three by four, its own dual", grid("grid 3 4;shut 0 0 right;shut 1 0 right;shut 0 3 right;shut 1 3 right;").alike(), true);
    }
}
