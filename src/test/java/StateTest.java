/** Promises 1, 5 and 7 to 11: a new object, state, plate, cell, tone, inks, why; ranks and curves. */
public final class StateTest {
    private static final Class<IndexOutOfBoundsException> INDEX = IndexOutOfBoundsException.class;
    private static final Class<IllegalArgumentException> ARGUMENT = IllegalArgumentException.class;

    public static void main(String[] args) {
        aNewObject();
        states();
        plates();
        cellsOfAPlate();
        tonesAndInks();
        reasons();
        wrongInputs();
        ranksOfShapes();
        ranksAfterTurns();
        ranksOfAShiftedPlate();
        thresholds();
        curves();
        Check.end("StateTest");
    }

    private static void states(TonePlates x, String when, int... due) {
        for (int i = 0; i < due.length; i++) {
            int what = i;
            Check.same("state(" + i + "), " + when, due[i], () -> x.state(what));
        }
    }

    private static void plateIs(TonePlates x, int plate, String when, int... due) {
        for (int i = 0; i < due.length; i++) {
            int what = i;
            Check.same("plate(" + plate + ", " + i + "), " + when, due[i], () -> x.plate(plate, what));
        }
    }

    private static void aNewObject() {
        TonePlates x = new TonePlates();
        states(x, "new", 8, 8, 0, 4, 0, 64, 0, 0, 0);
        Check.same("tone", 0, () -> x.tone(7, 7));
        Check.same("inks", 0, () -> x.inks(7, 7));
        Check.fails("x 8", INDEX, () -> x.tone(8, 7));
        Check.fails("y 8", INDEX, () -> x.tone(7, 8));
        Check.fails("no plate", INDEX, () -> x.plate(0, 0));
        Check.same("find", -1, () -> x.find(0));
        Check.fails("an empty buffer", ARGUMENT, () -> x.find(1));
        Check.same("errorOffset", -1, x::errorOffset);
        Check.same("nothing to undo", -1, x::undo);
        Check.same("copies", -1, x::copies);
        Check.same("worst", -1, () -> x.worst(false));
        Check.same("it can be painted", 0, () -> x.paint(0, 0, 8, 8, 100));
        states(x, "painted", 8, 8, 0, 4, 0, 64, 0, 6400, 0);
    }

    /** The ranks of 1 1 are 2 0 above 1 3; with tone 44 those under 1.76 have a dot. */
    private static void states() {
        TonePlates x = Check.loaded("picture 4 3;tones 4444 4444 0099;plate k 1 1 line;plate c 1 0 round;limit 2;");
        // k: .#.# / #.#. / ..##   c: #### / #### / ..##
        states(x, "two plates", 4, 3, 2, 2, 16, 2, 6, 550, 0);
        x.limit(1);
        states(x, "limit 1", 4, 3, 2, 1, 10, 2, 0, 550, 0);
        x.clean(0);
        states(x, "cleaned", 4, 3, 2, 1, 10, 2, 0, 550, 3);
        x.paint(0, 0, 4, 3, 0);
        states(x, "no tones: what was cleaned away stays", 4, 3, 2, 1, 0, 12, 0, 0, 3);
        TonePlates y = Check.loaded("picture 3 2;tones 999 999;plate k 1 0 line;");
        states(y, "one plate", 3, 2, 1, 4, 6, 0, 6, 594, 0);
    }

    private static void plates() {
        TonePlates x = Check.loaded("picture 5 4;tones 44440 44440 44999 44999;plate k 1 1 line;"
                + "plate c 2 1 diamond curve tone-44;ink c 12345;");
        // k: .#.#. / #.#.. / .#### / #.###   c: nothing above ..##. / ..#..
        plateIs(x, 0, "k", 1, 1, 2, 1, 0, 0, 1000, 12, 4, 4, 1122);
        plateIs(x, 1, "c", 2, 1, 5, 2, 0, 0, 12345, 3, 0, 0, 330);
        x.shift(1, 4, 17);
        x.shape(1, 3);
        x.turn(1, 0, 2);
        plateIs(x, 1, "changed", 0, 2, 4, 3, 4, 17, 12345);
        Check.same("blocks", 1, () -> x.plate(1, 9));
        x.turn(1, 3, 3);
        Check.same("blocks of 18", 0, () -> x.plate(1, 9));
        x.turn(1, 1, 0);
        Check.same("blocks of 1", 20, () -> x.plate(1, 9));
        TonePlates wide = Check.loaded("picture 16 12;plate k 2 1 line;");
        Check.same("blocks of 5 in 16 by 12", 6, () -> wide.plate(0, 9));
    }

    private static void cellsOfAPlate() {
        TonePlates x = Check.loaded("picture 4 3;tones 4444 4444 0099;plate k 1 1 line;plate c 1 0 line;limit 1;");
        // k: .#.# / #.#. / ..##
        int[][] cells = {{0, 0, 2, 44, 0, 0, 0}, {1, 0, 0, 44, 1, 1, 0}, {0, 1, 1, 44, 1, 1, 0}, {1, 1, 3, 44, 0, 0, 0},
            {3, 2, 0, 99, 1, 0, 0}, {2, 2, 2, 99, 1, 0, 0}, {0, 2, 2, 0, 0, 0, 0}};
        for (int[] cell : cells) {
            for (int what = 0; what <= 4; what++) {
                int of = what;
                Check.same("cell(0, " + cell[0] + ", " + cell[1] + ", " + what + ")", cell[what + 2],
                        () -> x.cell(0, cell[0], cell[1], of));
            }
        }
        Check.same("c has no dot on k's", 0, () -> x.cell(1, 1, 0, 2));
        Check.same("c has one beside it", 1, () -> x.cell(1, 0, 0, 2));
        Check.same("spots of c at the top left", 1, () -> x.cell(1, 0, 0, 3));
        x.clean(0);
        Check.same("cleaned", 1, () -> x.cell(0, 1, 0, 4));
        Check.same("no dot there", 0, () -> x.cell(0, 1, 0, 2));
        Check.same("no spot there", 0, () -> x.cell(0, 1, 0, 3));
        Check.same("its rank", 0, () -> x.cell(0, 1, 0, 0));
        Check.same("not cleaned beside it", 0, () -> x.cell(0, 0, 0, 4));
        Check.same("not cleaned on c", 0, () -> x.cell(1, 1, 0, 4));
        Check.same("c has a dot now", 1, () -> x.cell(1, 1, 0, 2));
        Check.same("no spot of c any more", 0, () -> x.cell(1, 0, 0, 3));
        TonePlates one = Check.loaded("picture 1 1;tones 5;plate k 1 0 line;");
        Check.same("a spot on one cell", 1, () -> one.cell(0, 0, 0, 3));
    }

    private static void tonesAndInks() {
        TonePlates x = Check.loaded("picture 3 2;tones 012 789;plate a 1 0 line;plate b 1 0 line curve 100-tone*2;"
                + "plate c 1 0 line curve tone-90;plate d 1 0 line curve x*100;");
        int[] tones = {0, 11, 22, 77, 88, 99};
        int[] inks = {2, 11, 11, 1, 9, 13};
        for (int i = 0; i < 6; i++) {
            int at = i;
            Check.same("tone " + i, tones[i], () -> x.tone(at % 3, at / 3));
            Check.same("inks " + i, inks[i], () -> x.inks(at % 3, at / 3));
        }
        x.limit(2);
        Check.same("the later plates lose", 3, () -> x.inks(1, 0));
        Check.same("cell 5", 5, () -> x.inks(2, 1));
        x.limit(1);
        Check.same("only one", 1, () -> x.inks(1, 0));
        Check.same("only one, b", 2, () -> x.inks(0, 0));
        x.limit(3);
        Check.same("three", 13, () -> x.inks(2, 1));
    }

    private static void reasons() {
        TonePlates x = Check.loaded("picture 4 3;tones 4444 4444 0099;plate k 1 1 line;plate c 1 1 line;"
                + "plate m 1 0 line;limit 1;");
        Check.same("a dot", 0, () -> x.why(0, 1, 0));
        Check.same("rank too great", 2, () -> x.why(0, 0, 0));
        Check.same("the limit", 3, () -> x.why(1, 1, 0));
        Check.same("rank too great, with a plate before", 2, () -> x.why(1, 0, 0));
        Check.same("a dot of the third", 0, () -> x.why(2, 0, 0));
        Check.same("the limit for the third", 3, () -> x.why(2, 1, 0));
        Check.same("tone 0", 2, () -> x.why(2, 0, 2));
        x.clean(0);
        Check.same("cleaned", 1, () -> x.why(0, 1, 0));
        Check.same("the next one has it", 0, () -> x.why(1, 1, 0));
        Check.same("still the limit for the third", 3, () -> x.why(2, 1, 0));
        x.paint(0, 0, 4, 3, 0);
        Check.same("cleaned, where none would be", 1, () -> x.why(0, 1, 0));
        Check.same("not cleaned there", 2, () -> x.why(0, 0, 0));
        x.paint(0, 0, 4, 3, 100);
        x.limit(2);
        Check.same("two plates before", 3, () -> x.why(2, 0, 0));
        Check.same("one plate before", 0, () -> x.why(2, 1, 0));
        x.dirty(0);
        Check.same("not cleaned any more", 0, () -> x.why(0, 1, 0));
        x.paint(0, 0, 4, 3, 44);
        x.clean(1);
        x.limit(1);
        Check.same("cleaned comes before the limit", 1, () -> x.why(1, 1, 0));
    }

    private static void wrongInputs() {
        TonePlates x = Check.loaded("picture 4 3;plate k 1 1 line;plate c 1 1 line;");
        long before = x.checksum();
        for (int wrong : new int[] {-1, 9, Integer.MIN_VALUE, Integer.MAX_VALUE}) {
            Check.fails("state(" + wrong + ")", ARGUMENT, () -> x.state(wrong));
        }
        for (int wrong : new int[] {-1, 11, Integer.MIN_VALUE, Integer.MAX_VALUE}) {
            Check.fails("plate(1, " + wrong + ")", ARGUMENT, () -> x.plate(1, wrong));
            Check.fails("plate(2, " + wrong + ")", INDEX, () -> x.plate(2, wrong));
        }
        for (int wrong : new int[] {-1, 2, Integer.MIN_VALUE, Integer.MAX_VALUE}) {
            Check.fails("plate(" + wrong + ", 0)", INDEX, () -> x.plate(wrong, 0));
            Check.fails("cell(" + wrong + ", 0, 0, 0)", INDEX, () -> x.cell(wrong, 0, 0, 0));
            Check.fails("cell(" + wrong + ", 0, 0, 5)", INDEX, () -> x.cell(wrong, 0, 0, 5));
            Check.fails("why(" + wrong + ", 0, 0)", INDEX, () -> x.why(wrong, 0, 0));
        }
        for (int wrong : new int[] {-1, 5, Integer.MIN_VALUE, Integer.MAX_VALUE}) {
            Check.fails("cell(0, 0, 0, " + wrong + ")", ARGUMENT, () -> x.cell(0, 0, 0, wrong));
            Check.fails("cell(0, 4, 0, " + wrong + ")", INDEX, () -> x.cell(0, 4, 0, wrong));
        }
        int[][] places = {{-1, 0}, {4, 0}, {0, -1}, {0, 3}, {3, 3}, {4, 2}, {Integer.MAX_VALUE, 0},
            {0, Integer.MAX_VALUE}, {Integer.MIN_VALUE, Integer.MIN_VALUE}};
        for (int[] place : places) {
            Check.fails("tone", INDEX, () -> x.tone(place[0], place[1]));
            Check.fails("inks", INDEX, () -> x.inks(place[0], place[1]));
            Check.fails("why", INDEX, () -> x.why(0, place[0], place[1]));
            Check.fails("cell", INDEX, () -> x.cell(0, place[0], place[1], 0));
        }
        Check.same("the last cell", 0, () -> x.tone(3, 2));
        Check.same("nothing changed", before, x::checksum);
    }

    private static void ranksAre(TonePlates x, int plate, int y, int... due) {
        for (int i = 0; i < due.length; i++) {
            int at = i;
            Check.same("rank of " + at + ", " + y + " on " + plate, due[i], () -> x.cell(plate, at, y, 0));
        }
    }

    private static void ranksOfShapes() {
        TonePlates x = Check.loaded("picture 16 2;plate r 2 3 round;plate l 2 3 line;plate d 2 3 diamond;"
                + "plate s 2 3 square;");
        ranksAre(x, 0, 0, 156, 52, 0, 1, 53, 54, 55, 56, 57, 58, 2, 3, 59, 156, 52, 0);
        ranksAre(x, 0, 1, 60, 61, 4, 5, 62, 157, 63, 6, 7, 64, 65, 66, 67, 60, 61, 4);
        ranksAre(x, 1, 0, 156, 104, 52, 0, 26, 78, 130, 131, 79, 27, 1, 53, 105, 156, 104, 52);
        ranksAre(x, 1, 1, 80, 28, 2, 54, 106, 157, 107, 55, 3, 29, 81, 132, 133, 80, 28, 2);
        ranksAre(x, 2, 0, 156, 104, 0, 1, 52, 105, 53, 54, 106, 55, 2, 3, 107, 156, 104, 0);
        ranksAre(x, 2, 1, 108, 56, 4, 5, 109, 157, 110, 6, 7, 57, 111, 58, 59, 108, 56, 4);
        ranksAre(x, 3, 0, 156, 52, 0, 1, 104, 53, 105, 106, 54, 107, 2, 3, 55, 156, 52, 0);
        ranksAre(x, 3, 1, 56, 108, 4, 5, 57, 157, 58, 6, 7, 109, 59, 110, 111, 56, 108, 4);
        x.turn(0, 3, 3);
        ranksAre(x, 0, 0, 306, 162, 18, 0, 19, 163, 307, 164, 20, 1, 21, 165, 308, 166, 22, 2);
        x.turn(0, 1, 0);
        ranksAre(x, 0, 1, 0, 0, 0);
        x.turn(3, 2, 0);
        ranksAre(x, 3, 0, 4, 5, 6, 7, 4);
        ranksAre(x, 3, 1, 8, 0, 9, 1, 8);
        x.shape(3, 1);
        ranksAre(x, 3, 0, 8, 0, 9, 1, 8);
        ranksAre(x, 3, 1, 10, 2, 11, 3, 10);
    }

    /** From any screen and shape to any other, the ranks are those of a new object. */
    private static void ranksAfterTurns() {
        for (int i = 0; i < 60; i++) {
            int a = (i % 15 + 1) / 4;
            int b = (i % 15 + 1) % 4;
            TonePlates x = Check.loaded("picture 16 12;plate k " + b + " " + a + " line;");
            x.plate(0, 7);
            if (i % 4 != 1) {
                x.turn(0, a, 3);
                x.shape(0, i % 4);
                x.plate(0, 7);
            }
            x.turn(0, a, b);
            TonePlates fresh = Check.loaded("picture 16 12;plate k " + a + " " + b + " line;");
            fresh.shape(0, x.plate(0, 3));
            for (int j = 0; j < 192; j++) {
                int at = j;
                Check.same("rank " + at + " of turn " + i, fresh.cell(0, at % 16, at / 16, 0),
                        () -> x.cell(0, at % 16, at / 16, 0));
            }
        }
    }

    private static void ranksOfAShiftedPlate() {
        TonePlates x = Check.loaded("picture 5 2;plate l 1 2 line;");
        ranksAre(x, 0, 0, 20, 10, 0, 1, 11);
        ranksAre(x, 0, 1, 2, 3, 12, 21, 13);
        x.shift(0, 1, 0);
        ranksAre(x, 0, 0, 10, 0, 1, 11, 20);
        x.shift(0, 0, 2);
        ranksAre(x, 0, 0, 14, 22, 15, 4, 5);
        ranksAre(x, 0, 1, 16, 6, 7, 17, 23);
        x.shift(0, 17, 14);
        ranksAre(x, 0, 0, 24, 19, 9, 8, 18);
        ranksAre(x, 0, 1, 0, 1, 11, 20, 10);
    }

    /** Rank r of 1 1 has a dot from tone 25 * r + 1 on. */
    private static void thresholds() {
        TonePlates x = Check.loaded("picture 2 2;plate k 1 1 line;");
        int[][] tones = {{0, 0}, {1, 1}, {25, 1}, {26, 2}, {50, 2}, {51, 3}, {75, 3}, {76, 4}, {100, 4}};
        for (int[] tone : tones) {
            Check.same("dots with tone " + tone[0], tone[1], () -> x.paint(0, 0, 2, 2, tone[0]));
        }
        TonePlates z = Check.loaded("picture 6 2;plate k 2 3 round;");
        Check.same("a rank of 157 of 169, tone 92", 2, () -> z.paint(5, 1, 1, 1, 92) + z.why(0, 5, 1));
        Check.same("a rank of 157 of 169, tone 93", 1, () -> z.paint(5, 1, 1, 1, 93) + z.why(0, 5, 1));
        TonePlates y = Check.loaded("picture 16 12;plate k 3 3 round;");
        Check.same("tone 100 on the greatest screen", 192, () -> y.paint(0, 0, 16, 12, 100));
        Check.same("tone 0", 0, () -> y.paint(0, 0, 16, 12, 0));
    }

    private static void curveGives(String curve, int due) {
        TonePlates x = Check.loaded("picture 4 3;plate a 1 0 line;plate b 1 0 line;plate k 1 0 line curve " + curve
                + ";tones 5555 5555 5557;");
        // The cell has the tone 77, x is 3, y is 2, and the plate 2.
        Check.same(curve, due, () -> x.cell(2, 3, 2, 1));
    }

    private static void curves() {
        Object[][] all = {
            {"tone", 77}, {"x", 3}, {"y", 2}, {"plate", 2}, {"x*10+y", 32}, {"0", 0}, {"100", 100}, {"9999", 100},
            {"x-y-plate", 0}, {"50-x-y", 45}, {"50-(x-y)", 49}, {"2+3*4", 14}, {"(2+3)*4", 20}, {"90/4/3", 7},
            {"90/(4/3)", 90}, {"7/2*2", 6}, {"0-1", 0}, {"0-7/2+10", 7}, {"(0-7)/2+10", 7}, {"7/(0-2)+10", 7},
            {"5/0", 0}, {"5/(x-3)+9", 9}, {"0/0+1", 1}, {"50/(y-plate)*3+4", 4},
            {"9999*9999/5000/4", 50}, {"9999*9999/9999", 100}, {"9999*9999-9999*100", 100},
            {"9999*9999-9999*99-9999-50", 50},
            {"(0-9999*9999+999*1000+1000)+40", 40}, {"0-9999*9999-9999*9999+9999*100+170", 70},
            {"9999*9999+9999*9999-9999*100-90", 10}, {"(0-9999)*9999/(0-9999)/2", 50},
            {"9999*9999*9999/9999/2", 50}, {"((((x+1))))*((((y+1))))", 12}, {"tone*tone/100", 59},
            {"1-(1-(1-(1-(1-x))))", 0}, {"x-(1-(x-(1-x)))", 7}, {"1*2+3*4-5*1+6/3", 11}, {"2*(3+4*(5-3*(2-1)))", 22},
            {"1+2*(3+4*(1+2*(1+1*(x*y))))", 100}, {"1+1*(1+1*(1+1*(1+1*(x*y))))", 10}
        };
        for (Object[] one : all) {
            curveGives((String) one[0], (int) one[1]);
        }
    }
}
