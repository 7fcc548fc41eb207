/** Promises 19 to 27: paint, turn, shape, shift, limit, clean, dirty, fill, press. */
public final class ChangeTest {
    private static final Class<IndexOutOfBoundsException> INDEX = IndexOutOfBoundsException.class;
    private static final Class<IllegalArgumentException> ARGUMENT = IllegalArgumentException.class;
    private static final int[] FAR = {Integer.MIN_VALUE, Integer.MAX_VALUE};

    public static void main(String[] args) {
        paints();
        paintsOnlyInside();
        turns();
        shapes();
        shifts();
        limits();
        cleans();
        cleansAllAtOnce();
        cleaningStays();
        fills();
        presses();
        fullSize();
        noPlatesAtFirst();
        Check.end("ChangeTest");
    }

    /** A call that throws is no change. */
    private static void refused(TonePlates x, String what, Class<? extends RuntimeException> due, Check.Call call) {
        long before = x.checksum();
        Check.fails(what, due, call);
        Check.same("checksum after " + what, before, x::checksum);
    }

    private static void paints() {
        TonePlates x = Check.loaded("picture 4 3;plate k 1 0 line;plate c 1 0 line curve tone-50;");
        Check.same("a rectangle", 4, () -> x.paint(1, 1, 2, 2, 50));
        String tones = "";
        for (int i = 0; i < 12; i++) {
            tones += x.tone(i % 4, i / 4) + " ";
        }
        String got = tones;
        Check.same("the tones", "0 0 0 0 0 50 50 0 0 50 50 0 ", () -> got);
        Check.same("a column", 6, () -> x.paint(3, 0, 1, 2, 1));
        Check.same("all of it", 7, () -> x.paint(3, 0, 1, 3, 1));
        Check.same("none of it", 4, () -> x.paint(3, 0, 1, 3, 0));
        Check.same("a row of it", 6, () -> x.paint(1, 1, 2, 1, 51));
        Check.same("one cell", 7, () -> x.paint(3, 2, 1, 1, 1));
        Check.same("all", 24, () -> x.paint(0, 0, 4, 3, 100));
        Check.same("nothing else", 24, () -> x.paint(0, 0, 4, 3, 100));
        Check.same("none", 0, () -> x.paint(0, 0, 4, 3, 0));
        Check.same("changes", 7, x::undo);
    }

    private static void paintsOnlyInside() {
        TonePlates x = Check.loaded("picture 4 3;plate k 1 0 line;");
        int[][] noCell = {{-1, 0, 1, 1, 0}, {4, 0, 1, 1, 0}, {0, -1, 1, 1, 0}, {0, 3, 1, 1, 0}, {4, 0, 0, 0, -1},
            {Integer.MIN_VALUE, 0, 1, 1, 0}, {0, Integer.MAX_VALUE, 1, 1, 0}, {3, 3, 1, 1, 101}};
        for (int[] p : noCell) {
            refused(x, "paint at " + p[0] + ", " + p[1], INDEX, () -> x.paint(p[0], p[1], p[2], p[3], p[4]));
        }
        int[][] wrong = {{0, 0, 0, 1, 0}, {0, 0, 1, 0, 0}, {0, 0, -1, 1, 0}, {0, 0, 1, -1, 0}, {0, 0, 5, 1, 0},
            {0, 0, 1, 4, 0}, {3, 0, 2, 1, 0}, {0, 2, 1, 2, 0}, {0, 0, 1, 1, -1}, {0, 0, 1, 1, 101},
            {1, 1, Integer.MAX_VALUE, 1, 0}, {1, 1, 1, Integer.MAX_VALUE, 0}, {1, 1, Integer.MIN_VALUE, 1, 0},
            {1, 1, 1, Integer.MIN_VALUE, 0}, {0, 0, 1, 1, Integer.MAX_VALUE}, {0, 0, 1, 1, Integer.MIN_VALUE}};
        for (int[] p : wrong) {
            refused(x, "paint " + p[2] + " by " + p[3] + " with " + p[4], ARGUMENT,
                    () -> x.paint(p[0], p[1], p[2], p[3], p[4]));
        }
        Check.same("the last cell", 1, () -> x.paint(3, 2, 1, 1, 100));
        Check.same("changes", 1, x::undo);
    }

    private static void turns() {
        TonePlates x = Check.loaded("picture 4 2;tones 3333 3333;plate k 1 0 line;plate c 1 0 line;");
        Check.same("turn", 2, () -> x.turn(1, 1, 1));
        Check.same("a", 1, () -> x.plate(1, 0));
        Check.same("b", 1, () -> x.plate(1, 1));
        Check.same("the other", 0, () -> x.plate(0, 1));
        Check.same("dots", 4, () -> x.plate(1, 7));
        Check.same("0 3", 9, () -> x.turn(1, 0, 3));
        Check.same("3 0", 9, () -> x.turn(1, 3, 0));
        Check.same("3 3", 18, () -> x.turn(1, 3, 3));
        Check.same("2 3", 13, () -> x.turn(1, 2, 3));
        Check.same("a again", 2, () -> x.plate(1, 0));
        int[][] wrong = {{0, 0}, {-1, 1}, {1, -1}, {4, 1}, {1, 4}, {FAR[0], 1}, {1, FAR[1]}, {FAR[0], FAR[0]}};
        for (int[] p : wrong) {
            refused(x, "turn " + p[0] + ", " + p[1], ARGUMENT, () -> x.turn(1, p[0], p[1]));
            refused(x, "turn of no plate", INDEX, () -> x.turn(2, p[0], p[1]));
        }
        refused(x, "turn of plate -1", INDEX, () -> x.turn(-1, 1, 1));
        Check.same("changes", 5, x::undo);
    }

    private static void shapes() {
        TonePlates x = Check.loaded("picture 4 4;plate k 2 0 diamond;plate c 2 0 round;");
        Check.same("before", 2, () -> x.shape(0, 1));
        Check.same("a rank", 8, () -> x.cell(0, 0, 0, 0));
        Check.same("line before", 1, () -> x.shape(0, 3));
        Check.same("another rank", 4, () -> x.cell(0, 0, 0, 0));
        Check.same("square before", 3, () -> x.shape(0, 0));
        Check.same("a third rank", 12, () -> x.cell(0, 0, 0, 0));
        Check.same("round before", 0, () -> x.shape(0, 0));
        Check.same("the other", 0, () -> x.shape(1, 2));
        for (int wrong : new int[] {-1, 4, FAR[0], FAR[1]}) {
            refused(x, "shape " + wrong, ARGUMENT, () -> x.shape(0, wrong));
            refused(x, "shape of plate " + (wrong < 0 ? wrong : 2), INDEX, () -> x.shape(wrong < 0 ? wrong : 2, wrong));
        }
        Check.same("changes", 5, x::undo);
    }

    private static void shifts() {
        TonePlates x = Check.loaded("picture 3 1;tones 333;plate k 1 1 line;plate c 1 0 line;limit 1;");
        // k has the ranks 2 0 2, so a dot on the middle; c on both others.
        Check.same("dots", 1, () -> x.plate(0, 7));
        Check.same("shift", 3, () -> x.shift(0, 1, 0));
        Check.same("dots now", 2, () -> x.plate(0, 7));
        Check.same("shift both", 3, () -> x.shift(0, 17, 17));
        Check.same("dx", 17, () -> x.plate(0, 4));
        Check.same("dy", 17, () -> x.plate(0, 5));
        Check.same("the other's dx", 0, () -> x.plate(1, 4));
        Check.same("dots then", 1, () -> x.plate(0, 7));
        Check.same("rank", 3, () -> x.cell(0, 0, 0, 0));
        Check.same("back", 3, () -> x.shift(0, 0, 0));
        x.limit(2);
        Check.same("with two", 5, () -> x.shift(0, 3, 0));
        int[][] wrong = {{-1, 0}, {0, -1}, {18, 0}, {0, 18}, {FAR[0], 0}, {0, FAR[0]}, {FAR[1], 0}, {0, FAR[1]}};
        for (int[] p : wrong) {
            refused(x, "shift " + p[0] + ", " + p[1], ARGUMENT, () -> x.shift(1, p[0], p[1]));
            refused(x, "shift of no plate", INDEX, () -> x.shift(2, p[0], p[1]));
        }
        refused(x, "shift of plate -1", INDEX, () -> x.shift(-1, 0, 0));
        Check.same("changes", 5, x::undo);
    }

    private static void limits() {
        TonePlates x = Check.loaded("picture 1 1;tones 9;plate a 1 0 line;plate b 1 0 line;plate c 1 0 line;"
                + "plate d 1 0 line;");
        Check.same("all dots", 15, () -> x.inks(0, 0));
        int before = 4;
        for (int limit : new int[] {3, 2, 1, 4, 4}) {
            int due = before;
            Check.same("limit(" + limit + ")", due, () -> x.limit(limit));
            Check.same("state(3)", limit, () -> x.state(3));
            Check.same("inks with " + limit, (1 << limit) - 1, () -> x.inks(0, 0));
            before = limit;
        }
        for (int wrong : new int[] {0, 5, -1, FAR[0], FAR[1]}) {
            refused(x, "limit " + wrong, ARGUMENT, () -> x.limit(wrong));
        }
        Check.same("changes", 5, x::undo);
    }

    private static void cleans() {
        TonePlates x = Check.loaded("picture 4 3;tones 4444 4444 0099;plate k 1 1 line;plate c 1 0 line;limit 1;");
        // k: .#.# / #.#. / ..##
        Check.same("clean", 3, () -> x.clean(0));
        Check.same("dots left", 3, () -> x.plate(0, 7));
        Check.same("spots left", 0, () -> x.plate(0, 8));
        Check.same("c has more", 7, () -> x.plate(1, 7));
        Check.same("cleaned", 3, () -> x.state(8));
        Check.same("nothing to clean", 0, () -> x.clean(0));
        Check.same("cleaned still", 3, () -> x.state(8));
        Check.same("changes", 2, x::undo);
        Check.same("dirty", 3, () -> x.dirty(0));
        Check.same("as before", 6, () -> x.plate(0, 7));
        Check.same("nothing cleaned away", 0, () -> x.state(8));
        Check.same("nothing to take back", 0, () -> x.dirty(0));
        Check.same("dirty of the other", 0, () -> x.dirty(1));
        Check.same("changes", 4, x::undo);
        for (int wrong : new int[] {-1, 2, FAR[0], FAR[1]}) {
            refused(x, "clean " + wrong, INDEX, () -> x.clean(wrong));
            refused(x, "dirty " + wrong, INDEX, () -> x.dirty(wrong));
        }
    }

    /** Cleaning one by one would not make the others no spots; a limit makes new ones, which stay. */
    private static void cleansAllAtOnce() {
        TonePlates x = Check.loaded("picture 3 1;tones 989;plate a 1 0 line curve (tone-90)*99;plate b 1 0 line;"
                + "limit 1;");
        // a: #.#  b: .#.
        Check.same("clean b", 1, () -> x.clean(1));
        Check.same("clean a", 2, () -> x.clean(0));
        Check.same("b comes where a went", 2, () -> x.plate(1, 7));
        Check.same("its spots", 2, () -> x.plate(1, 8));
        Check.same("clean b again", 2, () -> x.clean(1));
        Check.same("cleaned", 5, () -> x.state(8));
        Check.same("dirty b", 3, () -> x.dirty(1));
        Check.same("no spots in a row", 0, () -> x.plate(1, 8));
        Check.same("dots", 3, () -> x.plate(1, 7));
        Check.same("dirty a", 2, () -> x.dirty(0));
        Check.same("b has one", 1, () -> x.plate(1, 7));
    }

    private static void cleaningStays() {
        TonePlates x = Check.loaded("picture 3 3;plate k 1 0 line;");
        x.paint(1, 1, 1, 1, 100);
        Check.same("clean", 1, () -> x.clean(0));
        x.paint(0, 0, 3, 3, 100);
        Check.same("dots around it", 8, () -> x.plate(0, 7));
        x.turn(0, 1, 1);
        Check.same("another screen", 8, () -> x.plate(0, 7));
        x.shape(0, 0);
        Check.same("another shape", 8, () -> x.plate(0, 7));
        x.shift(0, 1, 1);
        Check.same("another shift", 8, () -> x.plate(0, 7));
        x.paint(0, 0, 3, 3, 0);
        Check.same("no tone", 1, () -> x.state(8));
        Check.same("dirty, where none would be", 1, () -> x.dirty(0));
        Check.same("all again", 9, () -> x.paint(0, 0, 3, 3, 100));
    }

    private static void fills() {
        TonePlates x = Check.loaded("picture 3 3;plate k 1 0 line;plate c 1 0 line;ink c 90000;");
        Check.same("one", 1001, () -> x.fill(0, 1));
        Check.same("many", 11000, () -> x.fill(0, 9999));
        Check.same("plate", 11000, () -> x.plate(0, 6));
        Check.same("full", 99999, () -> x.fill(1, 9999));
        Check.same("some is lost", 99999, () -> x.fill(1, 5));
        for (int wrong : new int[] {0, -1, 10000, FAR[0], FAR[1]}) {
            refused(x, "fill " + wrong, ARGUMENT, () -> x.fill(1, wrong));
            refused(x, "fill of no plate", INDEX, () -> x.fill(2, wrong));
        }
        refused(x, "fill of plate -1", INDEX, () -> x.fill(-1, 1));
        Check.same("changes", 4, x::undo);
    }

    private static void presses() {
        TonePlates x = Check.loaded("picture 4 1;tones 9990;plate a 1 0 line;plate b 1 0 line curve 100-tone;"
                + "plate c 1 0 line curve 0;ink a 20;ink b 27;ink c 3;");
        Check.same("copies", 2, () -> x.press(2));
        Check.same("ink of a", 14, () -> x.plate(0, 6));
        Check.same("ink of b", 19, () -> x.plate(1, 6));
        Check.same("ink of c", 3, () -> x.plate(2, 6));
        Check.same("it ends early", 4, () -> x.press(1000));
        Check.same("ink of a then", 2, () -> x.plate(0, 6));
        Check.same("ink of b then", 3, () -> x.plate(1, 6));
        Check.same("none", 0, () -> x.press(1));
        Check.same("nothing is taken", 2, () -> x.plate(0, 6));
        Check.same("changes", 3, x::undo);
        for (int wrong : new int[] {0, -1, 1001, FAR[0], FAR[1]}) {
            refused(x, "press " + wrong, ARGUMENT, () -> x.press(wrong));
        }
        x.paint(0, 0, 4, 1, 100);
        x.fill(0, 9999);
        Check.same("just as much", 2500, x::copies);
        Check.same("a thousand", 1000, () -> x.press(1000));
        Check.same("what is left", 6001, () -> x.plate(0, 6));
        TonePlates none = Check.loaded("picture 4 1;plate a 1 0 line;");
        refused(none, "press without dots", IllegalStateException.class, () -> none.press(1));
        refused(none, "press 0 without dots", ARGUMENT, () -> none.press(0));
        TonePlates exact = Check.loaded("picture 4 1;tones 1111;plate a 1 0 line;ink a 8;");
        Check.same("to the last drop", 2, () -> exact.press(3));
        Check.same("dry", 0, () -> exact.plate(0, 6));
    }

    private static void fullSize() {
        String row = " 1234567890123456";
        TonePlates x = Check.loaded("picture 16 12;tones" + row.repeat(12) + ";plate a 1 0 line;plate b 1 0 line;"
                + "plate c 1 0 line;plate d 1 0 line curve (x+y)/(x-14);");
        Check.same("dots of a", 180, () -> x.plate(0, 7));
        // 15 / 1 to 26 / 1 in the last column, and a spot in none of them
        Check.same("dots of d", 12, () -> x.plate(3, 7));
        Check.same("the last cell", 15, () -> x.inks(15, 11));
        Check.same("its tone on d", 26, () -> x.cell(3, 15, 11, 1));
        Check.same("copies", 5, x::copies);
        Check.same("press", 5, () -> x.press(9));
        Check.same("ink of d", 940, () -> x.plate(3, 6));
        Check.same("a checkerboard", 96 * 3 + 12, () -> checkered(x));
        Check.same("clean", 96, () -> x.clean(0));
        Check.same("why", 1, () -> x.why(0, 15, 11));
        Check.same("dirty", 96, () -> x.dirty(0));
        Check.same("paint", 576 + 12, () -> x.paint(0, 0, 16, 12, 100));
        Check.same("no spot", 0, () -> x.clean(3));
    }

    private static int checkered(TonePlates x) {
        x.paint(0, 0, 16, 12, 0);
        for (int i = 0; i < 192; i++) {
            if ((i % 16 + i / 16) % 2 == 0) {
                x.paint(i % 16, i / 16, 1, 1, 60);
            }
        }
        return x.state(4);
    }

    private static void noPlatesAtFirst() {
        TonePlates x = new TonePlates();
        refused(x, "turn", INDEX, () -> x.turn(0, 1, 0));
        refused(x, "shape", INDEX, () -> x.shape(0, 0));
        refused(x, "shift", INDEX, () -> x.shift(0, 0, 0));
        refused(x, "clean", INDEX, () -> x.clean(0));
        refused(x, "dirty", INDEX, () -> x.dirty(0));
        refused(x, "fill", INDEX, () -> x.fill(0, 1));
        refused(x, "press", IllegalStateException.class, () -> x.press(1));
        Check.same("no change", -1, x::undo);
    }
}
