/** The edges that promises 19 to 27 name: the last value that a change takes, the first that it refuses. */
public final class ChangeEdgesTest {
    private static final int[] NO_PLATES = {-1, 2, 3, 4, Integer.MIN_VALUE, Integer.MAX_VALUE};
    private static final int[] FAR = {Integer.MIN_VALUE, Integer.MAX_VALUE};

    public static void main(String[] args) {
        onlyWhatIsTold();
        noSuchPlate();
        theFirstExceptionListed();
        paintOfNoCell();
        paintOfNoRectangle();
        paintToTheBorder();
        paintOfATone();
        turnsThatAreTaken();
        turnsThatAreRefused();
        shapesOfAPlate();
        shiftsOfAPlate();
        limitsOfDots();
        cleanAllOrNone();
        cleanedDotsStayAway();
        dirtyAllOrNone();
        fillUpToTheMost();
        fillsThatAreRefused();
        pressAsManyAsAsked();
        pressEndsEarly();
        pressOfFourPlates();
        pressToTheLastDrop();
        pressWithoutDots();
        Check.end("ChangeEdgesTest");
    }

    private static String numbersOf(TonePlates x, int plate) {
        return Edges.row(7, i -> x.plate(plate, i)) + ", limit " + x.state(3) + ", cleaned " + x.state(8);
    }

    /** Each change gives what the document tells, and all other numbers stay. */
    private static void onlyWhatIsTold() {
        TonePlates x = Check.loaded("picture 3 1;tones 909;plate a 1 2 square;plate b 3 2 diamond;ink a 9;limit 3;");
        x.shift(0, 17, 16);
        x.shift(1, 14, 15);
        String b = "3 2 13 2 14 15 1000, limit ";
        Check.same("P20: turn", 1, () -> x.turn(0, 0, 1));
        Check.same("P20: only a and b", "0 1 1 3 17 16 9, limit 3, cleaned 0", () -> numbersOf(x, 0));
        x.clean(0);
        Check.same("P24: only what is cleaned away", "0 1 1 3 17 16 9, limit 3, cleaned 2", () -> numbersOf(x, 0));
        x.shape(0, 0);
        Check.same("P21: only the shape", "0 1 1 0 17 16 9, limit 3, cleaned 2", () -> numbersOf(x, 0));
        x.shift(0, 1, 2);
        Check.same("P22: only dx and dy", "0 1 1 0 1 2 9, limit 3, cleaned 2", () -> numbersOf(x, 0));
        x.limit(2);
        Check.same("P23: only the limit", "0 1 1 0 1 2 9, limit 2, cleaned 2", () -> numbersOf(x, 0));
        x.fill(0, 5);
        Check.same("P26: only the ink", "0 1 1 0 1 2 14, limit 2, cleaned 2", () -> numbersOf(x, 0));
        Check.same("no other plate", b + "2, cleaned 2", () -> numbersOf(x, 1));
        x.paint(1, 0, 1, 1, 100);
        Check.same("P19: only tones", "0 1 1 0 1 2 14, limit 2, cleaned 2", () -> numbersOf(x, 0));
        Check.same("P19: no other tone", "99 100 99", () -> Edges.row(3, i -> x.tone(i, 0)));
        x.press(2);
        Check.same("P27: only ink", "0 1 1 0 1 2 12, limit 2, cleaned 2", () -> numbersOf(x, 0));
        x.dirty(0);
        Check.same("P25: only what was cleaned away", "0 1 1 0 1 2 12, limit 2, cleaned 0", () -> numbersOf(x, 0));
        Check.same("no tone", "99 100 99", () -> Edges.row(3, i -> x.tone(i, 0)));
    }

    /** "if there is no such plate" */
    private static void noSuchPlate() {
        for (int no : NO_PLATES) {
            Edges.refused("P20: turn of plate " + no, Edges.INDEX, x -> x.turn(no, 1, 0));
            Edges.refused("P21: shape of plate " + no, Edges.INDEX, x -> x.shape(no, 0));
            Edges.refused("P22: shift of plate " + no, Edges.INDEX, x -> x.shift(no, 0, 0));
            Edges.refused("P24: clean of plate " + no, Edges.INDEX, x -> x.clean(no));
            Edges.refused("P25: dirty of plate " + no, Edges.INDEX, x -> x.dirty(no));
            Edges.refused("P26: fill of plate " + no, Edges.INDEX, x -> x.fill(no, 1));
        }
        TonePlates x = new TonePlates();
        Check.fails("P20: no plate at all", Edges.INDEX, () -> x.turn(0, 1, 0));
        Check.fails("P21: no plate at all", Edges.INDEX, () -> x.shape(0, 0));
        Check.fails("P22: no plate at all", Edges.INDEX, () -> x.shift(0, 0, 0));
        Check.fails("P24: no plate at all", Edges.INDEX, () -> x.clean(0));
        Check.fails("P25: no plate at all", Edges.INDEX, () -> x.dirty(0));
        Check.fails("P26: no plate at all", Edges.INDEX, () -> x.fill(0, 1));
        Check.same("no change at all", -1, x::undo);
    }

    /** "If several exceptions apply to a call, the one that is listed first with the method is thrown." */
    private static void theFirstExceptionListed() {
        Edges.refused("P19: no x, wide 0", Edges.INDEX, x -> x.paint(4, 0, 0, 1, 5));
        Edges.refused("P19: no y, high 0", Edges.INDEX, x -> x.paint(0, 3, 1, 0, 5));
        Edges.refused("P19: x -1, tone 101", Edges.INDEX, x -> x.paint(-1, 0, 1, 1, 101));
        Edges.refused("P19: y -1, all wrong", Edges.INDEX, x -> x.paint(0, -1, -1, -1, -1));
        Edges.refused("P20: no plate, a 4", Edges.INDEX, x -> x.turn(2, 4, 0));
        Edges.refused("P20: no plate, both 0", Edges.INDEX, x -> x.turn(-1, 0, 0));
        Edges.refused("P21: no plate, shape 4", Edges.INDEX, x -> x.shape(2, 4));
        Edges.refused("P22: no plate, dx 18", Edges.INDEX, x -> x.shift(2, 18, 0));
        Edges.refused("P22: no plate, dy -1", Edges.INDEX, x -> x.shift(-1, 0, -1));
        Edges.refused("P26: no plate, ink 0", Edges.INDEX, x -> x.fill(2, 0));
        Edges.refused("P26: no plate, ink 10000", Edges.INDEX, x -> x.fill(-1, 10000));
        TonePlates none = new TonePlates();
        Check.fails("P27: copies 0, no dots", Edges.ARGUMENT, () -> none.press(0));
        Check.fails("P27: copies 1001, no dots", Edges.ARGUMENT, () -> none.press(1001));
    }

    /** "if there is no such cell" */
    private static void paintOfNoCell() {
        int[][] noCells = {{-1, 0}, {4, 0}, {0, -1}, {0, 3}, {4, 2}, {3, 3}, {FAR[0], 0}, {FAR[1], 0}, {0, FAR[0]},
            {0, FAR[1]}};
        for (int[] at : noCells) {
            Edges.refused("P19: paint at " + at[0] + ", " + at[1], Edges.INDEX, x -> x.paint(at[0], at[1], 1, 1, 5));
        }
    }

    /** "if wide or high is less than 1, or the rectangle does not lie within the picture" */
    private static void paintOfNoRectangle() {
        int[][] wrong = {{0, 0, 0, 1}, {0, 0, 1, 0}, {0, 0, 0, 0}, {0, 0, -1, 1}, {0, 0, 1, -1}, {0, 0, 5, 1}, {0, 0, 1, 4},
            {1, 0, 4, 1}, {0, 1, 1, 3}, {3, 2, 2, 1}, {3, 2, 1, 2}, {3, 2, 0, 1}, {3, 2, 1, 0}, {2, 2, -1, 1},
            {2, 2, 1, -1}, {1, 1, FAR[1], 1}, {1, 1, 1, FAR[1]}, {0, 0, FAR[1], 1}, {0, 0, 1, FAR[1]},
            {1, 1, FAR[0], 1}, {1, 1, 1, FAR[0]}, {3, 0, FAR[1] - 2, 1}, {0, 2, 1, FAR[1] - 1}};
        for (int[] p : wrong) {
            Edges.refused("P19: " + p[2] + " by " + p[3] + " at " + p[0] + ", " + p[1], Edges.ARGUMENT,
                    x -> x.paint(p[0], p[1], p[2], p[3], 5));
        }
    }

    /** "wide: how many cells to the right, 1 at least", "high: how many cells downward, 1 at least" */
    private static void paintToTheBorder() {
        Check.same("one cell", "000 000 000 001", () -> painted(2, 3, 1, 1));
        Check.same("the first cell", "100 000 000 000", () -> painted(0, 0, 1, 1));
        Check.same("a row", "000 111 000 000", () -> painted(0, 1, 3, 1));
        Check.same("the end of a row", "000 011 000 000", () -> painted(1, 1, 2, 1));
        Check.same("a column", "010 010 010 010", () -> painted(1, 0, 1, 4));
        Check.same("the end of a column", "000 000 010 010", () -> painted(1, 2, 1, 2));
        Check.same("all", "111 111 111 111", () -> painted(0, 0, 3, 4));
        Check.same("the last four", "000 000 011 011", () -> painted(1, 2, 2, 2));
    }

    private static String painted(int x, int y, int wide, int high) {
        TonePlates o = Check.loaded("picture 3 4;plate k 1 0 line;");
        Check.same("dots of " + wide + " by " + high, wide * high, () -> o.paint(x, y, wide, high, 1));
        StringBuilder all = new StringBuilder();
        for (int i = 0; i < 12; i++) {
            all.append(i > 0 && i % 3 == 0 ? " " : "").append(o.tone(i % 3, i / 3));
        }
        return all.toString();
    }

    /** "tone: 0 to 100" */
    private static void paintOfATone() {
        for (int tone : new int[] {-1, 101, FAR[0], FAR[1]}) {
            Edges.refused("P19: tone " + tone, Edges.ARGUMENT, x -> x.paint(0, 0, 1, 1, tone));
        }
        TonePlates x = Check.loaded("picture 2 1;tones 55;plate a 1 0 line;plate b 1 0 line curve 100-tone;");
        for (int tone : new int[] {0, 1, 99, 100}) {
            Check.same("P19: dots with tone " + tone, tone % 100 == 0 ? 3 : 4, () -> x.paint(1, 0, 1, 1, tone));
            Check.same("P19: the tone", tone, () -> x.tone(1, 0));
            Check.same("P19: no other one", 55, () -> x.tone(0, 0));
        }
    }

    /** "a: 0 to 3", "b: 0 to 3" */
    private static void turnsThatAreTaken() {
        TonePlates x = Check.loaded("picture 2 1;plate a 1 0 line;plate b 1 0 line;");
        for (int turn = 1; turn < 16; turn++) {
            int a = turn / 4;
            int b = turn % 4;
            Check.same("P20: turn to " + a + ", " + b, a * a + b * b, () -> x.turn(1, a, b));
            Check.same("P20: the turn", a * 10 + b, () -> x.plate(1, 0) * 10 + x.plate(1, 1));
            Check.same("P20: p", a * a + b * b, () -> x.plate(1, 2));
        }
        Check.same("P20: no other plate", 1, () -> x.plate(0, 2));
    }

    /** "if a or b is out of range, or both are 0" */
    private static void turnsThatAreRefused() {
        int[][] wrong = {{0, 0}, {-1, 0}, {-1, 1}, {0, -1}, {1, -1}, {4, 0}, {4, 3}, {0, 4}, {3, 4}, {-1, -1}, {4, 4},
            {FAR[0], 1}, {FAR[1], 1}, {1, FAR[0]}, {1, FAR[1]}, {FAR[0], FAR[0]}, {65536, 65536}};
        for (int[] p : wrong) {
            Edges.refused("P20: turn to " + p[0] + ", " + p[1], Edges.ARGUMENT, x -> x.turn(1, p[0], p[1]));
        }
    }

    /** "shape: 0 round, 1 line, 2 diamond, 3 square" */
    private static void shapesOfAPlate() {
        for (int shape : new int[] {-1, 4, FAR[0], FAR[1]}) {
            Edges.refused("P21: shape " + shape, Edges.ARGUMENT, x -> x.shape(1, shape));
        }
        TonePlates x = Check.loaded("picture 2 1;plate a 1 2 square;plate b 1 2 diamond;");
        int before = 2;
        for (int shape : new int[] {0, 3, 1, 1, 2}) {
            int due = before;
            Check.same("P21: the shape before " + shape, due, () -> x.shape(1, shape));
            Check.same("P21: the shape", shape, () -> x.plate(1, 3));
            before = shape;
        }
        Check.same("P21: no other plate", 3, () -> x.plate(0, 3));
    }

    /** "a shift (dx and dy, each 0 to 17, 0 at first)" */
    private static void shiftsOfAPlate() {
        int[][] wrong = {{-1, 0}, {0, -1}, {18, 0}, {0, 18}, {17, 18}, {18, 17}, {-1, 17}, {FAR[0], 0}, {FAR[1], 0},
            {0, FAR[0]}, {0, FAR[1]}};
        for (int[] p : wrong) {
            Edges.refused("P22: shift by " + p[0] + ", " + p[1], Edges.ARGUMENT, x -> x.shift(1, p[0], p[1]));
        }
        TonePlates x = Check.loaded("picture 2 1;plate a 1 0 line;plate b 1 1 line;");
        x.paint(0, 0, 2, 1, 20);
        Check.same("P22: at first", "0 0", () -> x.plate(1, 4) + " " + x.plate(1, 5));
        int[][] taken = {{17, 0, 3}, {0, 17, 2}, {17, 17, 2}, {1, 1, 2}, {0, 0, 3}};
        for (int[] p : taken) {
            Check.same("P22: dots shifted by " + p[0] + ", " + p[1], p[2], () -> x.shift(1, p[0], p[1]));
            Check.same("P22: dx, dy", p[0] + " " + p[1], () -> x.plate(1, 4) + " " + x.plate(1, 5));
            Check.same("P22: no other plate", "0 0", () -> x.plate(0, 4) + " " + x.plate(0, 5));
        }
    }

    /** "dots: 1 to 4" */
    private static void limitsOfDots() {
        for (int limit : new int[] {0, 5, -1, FAR[0], FAR[1]}) {
            Edges.refused("P23: limit " + limit, Edges.ARGUMENT, x -> x.limit(limit));
        }
        TonePlates x = Check.loaded("picture 1 1;tones 9;plate a 1 0 line;plate b 1 0 line;plate c 1 0 line;"
                + "plate d 1 0 line;");
        int before = 4;
        for (int limit : new int[] {1, 4, 2, 3, 3}) {
            int due = before;
            Check.same("P23: the limit before " + limit, due, () -> x.limit(limit));
            Check.same("P23: the limit", limit, () -> x.state(3));
            Check.same("P23: dots", limit, () -> x.state(4));
            before = limit;
        }
        TonePlates none = new TonePlates();
        Check.same("P23: without plates", 4, () -> none.limit(1));
        Check.same("P23: without plates, again", 1, () -> none.limit(4));
    }

    /** "all its spots, as they are now, are cleaned away at once", "Returns how many." */
    private static void cleanAllOrNone() {
        TonePlates x = Check.loaded("picture 4 3;plate a 1 0 line;plate b 1 0 line;");
        Check.same("P24: no dots", 0, () -> x.clean(0));
        x.paint(0, 0, 4, 3, 100);
        Check.same("P24: no spots", 0, () -> x.clean(0));
        for (int i = 0; i < 12; i++) {
            x.paint(i % 4, i / 4, 1, 1, (i + i / 4) % 2);
        }
        Check.same("P24: spots only", 6, () -> x.clean(0));
        Check.same("P24: no dot is left", 0, () -> x.plate(0, 7));
        Check.same("P24: no spots any more", 0, () -> x.clean(0));
        Check.same("P24: all is still cleaned away", 6, () -> x.state(8));
        Check.same("P24: no other plate", 6, () -> x.plate(1, 8));
        TonePlates old = Check.loaded("picture 4 1;tones 9999;plate k 1 0 line;");
        old.state(4);
        Check.load(old, "picture 4 1;tones 9090;plate k 1 0 line;");
        Check.same("P24: as they are now, right after load", 2, () -> old.clean(0));
        old.undo();
        old.undo();
        Check.same("P24: as they are now, right after undo", 0, () -> old.clean(0));
        old.paint(1, 0, 2, 1, 0);
        Check.same("P24: as they are now, right after paint", 2, () -> old.clean(0));
    }

    /** "that stays so for this plate and cell, whatever screen, shape or tone comes, until it is taken back" */
    private static void cleanedDotsStayAway() {
        TonePlates x = Check.loaded("picture 4 4;plate k 2 0 round;plate c 2 0 round;");
        x.paint(1, 1, 1, 1, 1);
        Check.same("P24: the place of rank 0", 1, () -> x.clean(0));
        x.paint(0, 0, 4, 4, 100);
        Check.same("whatever tone", 15, () -> x.plate(0, 7));
        x.turn(0, 1, 0);
        Check.same("whatever screen", 15, () -> x.plate(0, 7));
        x.shape(0, 3);
        Check.same("whatever shape", 15, () -> x.plate(0, 7));
        Check.same("whatever shift", 31, () -> x.shift(0, 5, 5));
        Check.same("that cell", 1, () -> x.why(0, 1, 1));
        x.limit(1);
        Check.same("whatever limit", 15, () -> x.plate(0, 7));
        Check.same("another plate puts it", 2, () -> x.inks(1, 1));
        Check.same("P25: until it is taken back", 1, () -> x.dirty(0));
        Check.same("P25: it is there", 16, () -> x.plate(0, 7));
        Check.same("P25: the other plate does not put it", 1, () -> x.inks(1, 1));
    }

    /** "Returns how many dots are not cleaned away any more (also where none would be)." */
    private static void dirtyAllOrNone() {
        TonePlates x = Check.loaded("picture 4 1;tones 9090;plate a 1 0 line;plate b 1 0 line;");
        Check.same("P25: nothing was cleaned away", 0, () -> x.dirty(0));
        x.clean(0);
        x.clean(1);
        Check.same("P25: two of a", 2, () -> x.dirty(0));
        Check.same("P25: none any more", 0, () -> x.dirty(0));
        Check.same("P25: those of b stay", 2, () -> x.state(8));
        x.paint(0, 0, 1, 1, 0);
        Check.same("P25: also where none would be", 2, () -> x.dirty(1));
        Check.same("P25: nothing is cleaned away", 0, () -> x.state(8));
        Check.same("P25: one dot of b", 1, () -> x.plate(1, 7));
        TonePlates great = Check.loaded("picture 16 12;tones" + " 9090909090909090 0909090909090909".repeat(6)
                + ";plate k 1 0 line;");
        Check.same("P24: the most spots", 96, () -> great.clean(0));
        Check.same("P5: cleaned away", 96, () -> great.state(8));
        Check.same("P25: the most spots", 96, () -> great.dirty(0));
        Check.same("P25: all are there", 96, () -> great.plate(0, 7));
    }

    /** "Returns its ink then, 99999 at most (more is lost)." */
    private static void fillUpToTheMost() {
        int[][] due = {{0, 1, 1}, {0, 9999, 9999}, {90000, 9999, 99999}, {90000, 9998, 99998}, {90001, 9999, 99999},
            {99998, 1, 99999}, {99999, 1, 99999}, {99999, 9999, 99999}};
        for (int[] one : due) {
            TonePlates x = Check.loaded("picture 1 1;plate a 1 0 line;plate b 1 0 line;ink b " + one[0] + ";");
            Check.same("P26: " + one[0] + " and " + one[1], one[2], () -> x.fill(1, one[1]));
            Check.same("P26: the ink", one[2], () -> x.plate(1, 6));
            Check.same("P26: no other plate", 1000, () -> x.plate(0, 6));
        }
        TonePlates lost = Check.loaded("picture 1 1;tones 9;plate k 1 0 line;ink k 99999;");
        lost.fill(0, 5);
        Check.same("P26: more is lost", 99994, () -> lost.press(5) * 0 + lost.plate(0, 6));
    }

    /** "ink: 1 to 9999" */
    private static void fillsThatAreRefused() {
        for (int ink : new int[] {0, -1, 10000, 99999, FAR[0], FAR[1]}) {
            Edges.refused("P26: ink " + ink, Edges.ARGUMENT, x -> x.fill(1, ink));
        }
    }

    /** "copies: 1 to 1000" */
    private static void pressAsManyAsAsked() {
        for (int copies : new int[] {0, -1, 1001, FAR[0], FAR[1]}) {
            Edges.refused("P27: press(" + copies + ")", Edges.ARGUMENT, x -> x.press(copies));
        }
        TonePlates x = Check.loaded("picture 2 1;tones 11;plate a 1 0 line;plate b 1 0 line curve x*9;ink a 99999;"
                + "ink b 99999;");
        Check.same("P27: one", 1, () -> x.press(1));
        Check.same("P27: two dots of a", 99997, () -> x.plate(0, 6));
        Check.same("P27: one dot of b", 99998, () -> x.plate(1, 6));
        Check.same("P27: a thousand", 1000, () -> x.press(1000));
        Check.same("P27: 2000 of a", 97997, () -> x.plate(0, 6));
        Check.same("P27: 1000 of b", 98998, () -> x.plate(1, 6));
    }

    /** "It ends early at a copy for which a plate has too little ink (nothing is taken for this one)." */
    private static void pressEndsEarly() {
        TonePlates x = Check.loaded("picture 3 1;tones 111;plate a 1 0 line;plate b 1 0 line curve x;"
                + "plate c 1 0 line curve 0;ink a 20;ink b 5;ink c 0;");
        Check.same("P27: b ends it, c does not", 2, () -> x.press(3));
        Check.same("P27: two copies of a", 14, () -> x.plate(0, 6));
        Check.same("P27: two copies of b", 1, () -> x.plate(1, 6));
        Check.same("P27: none of c", 0, () -> x.plate(2, 6));
        Check.same("P27: no copy", 0, () -> x.press(1));
        Check.same("P27: nothing is taken", "14 1 0", () -> Edges.row(3, i -> x.plate(i, 6)));
        x.fill(1, 999);
        Check.same("P27: a ends it", 4, () -> x.press(1000));
        Check.same("P27: four copies", "2 992 0", () -> Edges.row(3, i -> x.plate(i, 6)));
    }

    /** "each one takes as much ink of each plate as this has dots" */
    private static void pressOfFourPlates() {
        TonePlates x = Check.loaded("picture 4 1;tones 1111;plate a 1 0 line;plate b 1 0 line curve x;"
                + "plate c 1 0 line curve x/2;plate d 1 0 line curve x/3;");
        Check.same("P27: ten copies", 10, () -> x.press(10));
        Check.same("P27: 4, 3, 2 and 1 dots", "960 970 980 990", () -> Edges.row(4, i -> x.plate(i, 6)));
        Check.same("P27: as many as a has ink for", 240, () -> x.press(1000));
        Check.same("P27: ink left", "0 250 500 750", () -> Edges.row(4, i -> x.plate(i, 6)));
    }

    private static void pressToTheLastDrop() {
        int[][] due = {{0, 0, 0}, {2, 0, 2}, {3, 1, 0}, {5, 1, 2}, {6, 2, 0}, {9, 3, 0}, {11, 3, 2}, {12, 3, 3}};
        for (int[] one : due) {
            TonePlates x = Check.loaded("picture 3 1;tones 111;plate k 1 0 line;ink k " + one[0] + ";");
            Check.same("P27: three copies with ink " + one[0], one[1], () -> x.press(3));
            Check.same("P27: ink left of " + one[0], one[2], () -> x.plate(0, 6));
        }
        TonePlates great = Check.loaded("picture 16 12;plate k 1 0 line;ink k 99999;");
        great.paint(0, 0, 16, 12, 100);
        Check.same("P27: the most dots", 520, () -> great.press(1000));
        Check.same("P27: ink left of 99999", 99999 - 520 * 192, () -> great.plate(0, 6));
    }

    /** "if there are no dots at all" */
    private static void pressWithoutDots() {
        TonePlates x = Check.loaded("picture 2 1;plate a 1 0 line;plate b 1 0 line;");
        long before = x.checksum();
        Check.fails("P27: no dots", Edges.STATE, () -> x.press(1));
        Check.fails("P27: no dots, 1000 copies", Edges.STATE, () -> x.press(1000));
        Check.same("P27: nothing changes", before, x::checksum);
        Check.same("P27: it is no change", 0, x::undo);
        TonePlates none = new TonePlates();
        none.paint(0, 0, 8, 8, 100);
        Check.fails("P27: no plates", Edges.STATE, () -> none.press(1));
        TonePlates one = Check.loaded("picture 2 1;plate a 1 0 line;plate b 1 0 line curve tone-5;ink a 0;");
        one.paint(0, 0, 1, 1, 5);
        Check.same("P27: dots, but no ink", 0, () -> one.press(1));
        one.paint(0, 0, 1, 1, 6);
        one.clean(0);
        Check.same("P27: one dot of the last plate", 1, () -> one.press(1));
        one.clean(1);
        Check.fails("P27: all cleaned away", Edges.STATE, () -> one.press(1));
    }
}
