import java.util.concurrent.Callable;

/** What the tests share: answers that are due, and grids read from a text. */
final class Check {
    private int wrong;
    private int asked;

    void due(String what, Object got, Object want) {
        asked++;
        if (!String.valueOf(got).equals(String.valueOf(want))) {
            wrong++;
            System.out.println(what + " answered " + got + ", due is " + want);
        }
    }

    void refused(String what, Class<?> want, Callable<?> call) {
        asked++;
        try {
            Object got = call.call();
            wrong++;
            System.out.println(what + " answered " + got + ", due is " + want.getSimpleName());
        } catch (Exception e) {
            if (e.getClass() != want) {
                wrong++;
                System.out.println(what + " threw " + e + ", due is " + want.getSimpleName());
            }
        }
    }

    /** What a call answers; the name of the exception, if it throws one. */
    static String answer(Callable<?> call) {
        try {
            return String.valueOf(call.call());
        } catch (Exception e) {
            return e.getClass().getSimpleName();
        }
    }

    void finish(String name) {
        System.out.println(name + ": " + asked + " answers, " + wrong + " not as due");
        if (wrong > 0) System.exit(1);
    }

    /** A text comes on the tape; what was there stays ahead of it. */
    static void feed(WaterGrid grid, String text) {
        int before = 0;
        for (int i = 0; i < text.length(); i += 20) {
            int[] fours = new int[5];
            for (int n = 0; n < 20; n++) {
                fours[n / 4] = fours[n / 4] << 8 | (i + n < text.length() ? text.charAt(i + n) : 0);
            }
            before = grid.feed(fours[0], fours[1], fours[2], fours[3], fours[4]) - 20 - i;
        }
        grid.end(before + text.length());
    }

    static WaterGrid grid(String text) {
        WaterGrid grid = new WaterGrid();
        feed(grid, text);
        grid.read();
        return grid;
    }

    static int faultOf(String text) {
        WaterGrid grid = new WaterGrid();
        feed(grid, text);
        try {
            grid.read();
        } catch (IllegalArgumentException e) {
            return grid.fault();
        }
        return grid.fault();
    }

    static String written(WaterGrid grid) {
        StringBuilder text = new StringBuilder();
        int length = grid.write();
        for (int i = 0; i < length; i++) text.append((char) grid.octet(i));
        return text.toString();
    }
}
