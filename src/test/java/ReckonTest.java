import java.util.NoSuchElementException;

/** Promises 12 to 18: off, covered, moire, worst, bestTurn, copies, cellsWith. */
public final class ReckonTest {
    private static final Class<IndexOutOfBoundsException> INDEX = IndexOutOfBoundsException.class;

    public static void main(String[] args) {
        offs();
        covered();
        moires();
        worstPairs();
        bestTurns();
        copies();
        cellsWithDots();
        plateIndexes();
        Check.end("ReckonTest");
    }

    private static void offs() {
        TonePlates x = Check.loaded("picture 5 5;tones 44100 44000 99990 99990 11111;plate k 1 1 line;"
                + "plate c 1 0 line curve tone/2;plate m 2 1 line;limit 2;");
        int[] due = {200 - 176, -11, 400 - 396, 400 - 396};
        for (int i = 0; i < due.length; i++) {
            int block = i;
            Check.same("off(0, " + i + ")", due[i], () -> x.off(0, block));
        }
        Check.same("off(1, 0)", 78, () -> x.off(1, 0));
        Check.same("off(1, 3)", 0, () -> x.off(1, 3));
        Check.same("off(1, 24)", 95, () -> x.off(1, 24));
        for (int block : new int[] {-1, 4, 5, Integer.MIN_VALUE, Integer.MAX_VALUE}) {
            Check.fails("off(0, " + block + ")", NoSuchElementException.class, () -> x.off(0, block));
        }
        Check.fails("off(1, 25)", NoSuchElementException.class, () -> x.off(1, 25));
        Check.same("the one block of m", 100 * x.plate(2, 7) - x.plate(2, 10), () -> x.off(2, 0));
        Check.fails("off(2, 1)", NoSuchElementException.class, () -> x.off(2, 1));
        x.turn(2, 3, 1);
        Check.fails("no block at all", NoSuchElementException.class, () -> x.off(2, 0));
        x.limit(1);
        Check.same("the limit takes dots of c", -22, () -> x.off(1, 1));
        x.clean(0);
        Check.same("cleaned dots are off", 100 - 176, () -> x.off(0, 0));
        Check.same("a block without dots", -11, () -> x.off(0, 1));
        TonePlates flat = Check.loaded("picture 16 1;tones 5555555555555555;plate k 1 1 line;plate c 0 1 line;");
        Check.fails("too low for a block", NoSuchElementException.class, () -> flat.off(0, 0));
        Check.same("the last of 16", 45, () -> flat.off(1, 15));
        Check.fails("a block 16", NoSuchElementException.class, () -> flat.off(1, 16));
    }

    private static void covered() {
        TonePlates x = Check.loaded("picture 3 1;tones 100;plate k 1 0 line;plate c 1 0 line curve 100-tone;");
        Check.same("a third", 1.0f / 3.0f, () -> x.covered(0));
        Check.same("all", 1.0f, () -> x.covered(1));
        x.limit(1);
        Check.same("two thirds", 2.0f / 3.0f, () -> x.covered(1));
        x.paint(0, 0, 3, 1, 0);
        Check.same("none", 0.0f, () -> x.covered(0));
    }

    private static void moires() {
        TonePlates x = Check.loaded("picture 3 1;plate a 1 0 line;plate b 1 1 line;plate c 3 3 line;plate d 2 3 round;");
        // For 3 3 and 2 3: p is 18, q 13; e is (39 - 36)^2 + (39 - 54)^2.
        Check.same("0, 1", 2.0, () -> x.moire(0, 1));
        Check.same("1, 0", 2.0, () -> x.moire(1, 0));
        Check.same("2, 3", 54756.0 / 234.0, () -> x.moire(2, 3));
        Check.same("0, 2", 324.0 / (225.0 + 9.0), () -> x.moire(0, 2));
        Check.same("1, 2", 1296.0 / (144.0 + 144.0), () -> x.moire(1, 2));
        Check.same("1, 3", 676.0 / (81.0 + 49.0), () -> x.moire(1, 3));
        Check.same("with itself", 0.0, () -> x.moire(2, 2));
        x.turn(0, 3, 3);
        Check.same("the same screen", 0.0, () -> x.moire(0, 2));
    }

    private static void worstIs(String plates, int first, int second) {
        TonePlates x = Check.loaded("picture 3 1;" + plates);
        Check.same("worst of " + plates, first, () -> x.worst(false));
        Check.same("second worst of " + plates, second, () -> x.worst(true));
    }

    private static void worstPairs() {
        worstIs("", -1, -1);
        worstIs("plate a 1 0 line;", -1, -1);
        worstIs("plate a 1 0 line;plate b 1 0 line;", 0, 1);
        worstIs("plate a 1 0 line;plate b 1 0 line;plate c 1 0 line;", 0, 1);
        worstIs("plate a 1 0 line;plate b 1 0 line;plate c 1 1 line;", 0, 2);
        worstIs("plate a 1 0 line;plate b 3 3 line;plate c 1 1 line;plate d 3 2 line;", 1, 3);
        worstIs("plate a 2 3 line;plate b 3 3 line;plate c 1 1 line;plate d 3 2 line;", 0, 1);
        worstIs("plate a 3 3 line;plate b 1 0 line;plate c 2 3 line;plate d 3 2 line;", 0, 2);
        worstIs("plate a 1 0 line;plate b 1 0 line;plate c 2 3 line;plate d 3 3 line;", 2, 3);
    }

    private static void bestTurns() {
        TonePlates one = Check.loaded("picture 3 1;plate a 2 3 line;");
        Check.same("alone", 23, () -> one.bestTurn(0));
        TonePlates two = Check.loaded("picture 3 1;plate a 2 3 line;plate b 1 0 round;");
        Check.same("as the other", 10, () -> two.bestTurn(0));
        Check.same("as the other, of b", 23, () -> two.bestTurn(1));
        TonePlates same = Check.loaded("picture 3 1;plate a 2 3 line;plate b 0 3 line;plate c 0 3 line;");
        Check.same("both others are the same", 3, () -> same.bestTurn(0));
        TonePlates three = Check.loaded("picture 3 1;plate a 2 3 line;plate b 1 0 line;plate c 1 1 line;");
        Check.same("three", due(three, 0), () -> three.bestTurn(0));
        Check.same("three, b", due(three, 1), () -> three.bestTurn(1));
        Check.same("three, c", due(three, 2), () -> three.bestTurn(2));
        Check.same("nothing changed", 0, () -> three.undo());
        TonePlates great = Check.loaded("picture 3 1;plate a 1 0 line;plate b 3 3 line;");
        Check.same("the greatest turn", 33, () -> great.bestTurn(0));
        Check.same("of two with the same moire, the smaller one", due(great, 1), () -> great.bestTurn(1));
        TonePlates four = Check.loaded("picture 3 1;plate a 3 3 line;plate b 1 2 line;plate c 2 1 line;plate d 0 3 line;");
        for (int i = 0; i < 4; i++) {
            int plate = i;
            Check.same("four, " + i, due(four, i), () -> four.bestTurn(plate));
        }
    }

    /** Tries all turns. */
    private static int due(TonePlates x, int plate) {
        int best = 0;
        int plates = x.state(2);
        double least = Double.MAX_VALUE;
        for (int turn = 1; turn <= 33; turn++) {
            if (turn % 10 <= 3) {
                x.turn(plate, turn / 10, turn % 10);
                double greatest = 0;
                for (int other = 0; other < plates; other++) {
                    greatest = Math.max(greatest, x.moire(plate, other));
                }
                if (greatest < least) {
                    least = greatest;
                    best = turn;
                }
                x.undo();
            }
        }
        return best;
    }

    private static void copies() {
        TonePlates x = Check.loaded("picture 4 1;tones 9990;plate a 1 0 line;plate b 1 0 line curve 100-tone;"
                + "plate c 1 0 line curve 0;ink a 20;ink b 7;ink c 0;");
        Check.same("dots of b", 4, () -> x.plate(1, 7));
        Check.same("b ends first", 1, x::copies);
        x.fill(1, 100);
        Check.same("a ends first", 6, x::copies);
        x.paint(0, 0, 3, 1, 100);
        Check.same("one dot of b", 6, x::copies);
        x.paint(0, 0, 1, 1, 0);
        Check.same("two dots of each", 10, x::copies);
        x.turn(0, 1, 1);
        TonePlates none = Check.loaded("picture 4 1;plate a 1 0 line;ink a 99999;");
        Check.same("no dots", -1, none::copies);
        none.paint(0, 0, 1, 1, 1);
        Check.same("one dot", 99999, none::copies);
        TonePlates dry = Check.loaded("picture 4 1;tones 1111;plate a 1 0 line;ink a 3;plate b 1 0 line;");
        Check.same("too little ink", 0, dry::copies);
    }

    private static void cellsWithDots() {
        TonePlates x = Check.loaded("picture 5 1;tones 12345;plate a 1 0 line;plate b 1 0 line curve tone-11;"
                + "plate c 1 0 line curve tone-22;plate d 1 0 line curve tone-33;");
        int[] due = {0, 1, 1, 1, 2};
        for (int i = 0; i <= 4; i++) {
            int dots = i;
            Check.same("cellsWith(" + i + ")", due[i], () -> x.cellsWith(dots));
        }
        x.limit(2);
        Check.same("two dots at most", 4, () -> x.cellsWith(2));
        Check.same("not three", 0, () -> x.cellsWith(3));
        x.paint(0, 0, 1, 1, 0);
        Check.same("without", 1, () -> x.cellsWith(0));
        for (int wrong : new int[] {-1, 5, Integer.MIN_VALUE, Integer.MAX_VALUE}) {
            Check.fails("cellsWith(" + wrong + ")", IllegalArgumentException.class, () -> x.cellsWith(wrong));
        }
        Check.same("none has four", 0, () -> new TonePlates().cellsWith(4));
    }

    private static void plateIndexes() {
        TonePlates x = Check.loaded("picture 4 3;plate k 1 1 line;plate c 1 1 line;");
        for (int wrong : new int[] {-1, 2, Integer.MIN_VALUE, Integer.MAX_VALUE}) {
            Check.fails("off", INDEX, () -> x.off(wrong, 0));
            Check.fails("off, no block either", INDEX, () -> x.off(wrong, -1));
            Check.fails("covered", INDEX, () -> x.covered(wrong));
            Check.fails("moire, first", INDEX, () -> x.moire(wrong, 0));
            Check.fails("moire, second", INDEX, () -> x.moire(0, wrong));
            Check.fails("bestTurn", INDEX, () -> x.bestTurn(wrong));
        }
        TonePlates none = new TonePlates();
        Check.fails("covered, none", INDEX, () -> none.covered(0));
        Check.fails("moire, none", INDEX, () -> none.moire(0, 0));
        Check.fails("bestTurn, none", INDEX, () -> none.bestTurn(0));
        Check.fails("off, none", INDEX, () -> none.off(0, 0));
    }
}
