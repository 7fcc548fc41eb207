import java.util.NoSuchElementException;
import java.util.TreeSet;

/** The edges that the document's Terms and promises 5 and 7 to 18 name: what a picture tells. */
public final class PictureEdgesTest {
    public static void main(String[] args) {
        cellsBeforeTheFirstLoad();
        cellsOfAnIndex();
        indexesOfPlates();
        numbersOfWhat();
        theFirstExceptionListed();
        aPictureWithoutPlates();
        remaindersAreNotNegative();
        tiesGoByYThenByX();
        ranksAreAllIndexes();
        measuresOfShapes();
        ranksOfAnotherScreen();
        shiftsWrapAround();
        tonesOfAPictureBefore();
        tonesOnAPlateAreLimited();
        resultsAreLimited();
        divisionOfACurve();
        rankTimes100IsLessThanTone();
        theLimitOfDots();
        spotsAtTheBorder();
        spotsOnEachSide();
        blocksAreWholeCells();
        blocksOfAPlate();
        offIsLessOrMore();
        cellsWithAllOrNone();
        cleanedAwayWhereNoneWouldBe();
        whyTheFirstThatApplies();
        coveredNoneOrAll();
        moireOfOneScreen();
        worstOfFewPlates();
        worstOfEqualPairs();
        bestTurnAlone();
        bestTurnOfSeveral();
        copiesOfNoDots();
        copiesOfLittleInk();
        Check.end("PictureEdgesTest");
    }

    /** "Before the first successful load the picture has the width 8 and the height 8, ... no plates." */
    private static void cellsBeforeTheFirstLoad() {
        TonePlates x = new TonePlates();
        int[] due = {8, 8, 0, 4, 0, 64, 0, 0, 0};
        for (int i = 0; i < due.length; i++) {
            int what = i;
            Check.same("P1: state(" + i + ")", due[i], () -> x.state(what));
        }
        Check.same("P1: the last cell", 0, () -> x.tone(7, 7));
        Check.fails("P1: x 8", Edges.INDEX, () -> x.tone(8, 7));
        Check.fails("P1: y 8", Edges.INDEX, () -> x.tone(7, 8));
        Check.fails("P1: plate 0", Edges.INDEX, () -> x.plate(0, 0));
        Check.same("P1: after an error still", TonePlates.SYNTAX_ERROR, () -> Check.load(x, "picture 3 3;!"));
        Check.same("P1: 8 wide", 8, () -> x.state(0));
        Check.same("P1: 8 high", 8, () -> x.state(1));
    }

    /** "a cell has an x from 0, from the left, and a y from 0, from the top" */
    private static void cellsOfAnIndex() {
        TonePlates x = Check.loaded("picture 4 3;tones 1000 0200 0003;plate k 1 0 line;");
        Check.same("x from the left, y from the top", "11 0 0 0", () -> Edges.row(4, i -> x.tone(i, 0)));
        Check.same("the last row", "0 0 0 33", () -> Edges.row(4, i -> x.tone(i, 2)));
        Check.same("inks of the last row", "0 0 0 1", () -> Edges.row(4, i -> x.inks(i, 2)));
        Check.same("why of the last row", "2 2 2 0", () -> Edges.row(4, i -> x.why(0, i, 2)));
        int[][] noCells = {{-1, 0}, {4, 0}, {0, -1}, {0, 3}, {4, 2}, {3, 3}, {-1, 1}, {Integer.MIN_VALUE, 0},
            {Integer.MAX_VALUE, 0}, {0, Integer.MIN_VALUE}, {0, Integer.MAX_VALUE}};
        for (int[] at : noCells) {
            String cell = " of no cell " + at[0] + ", " + at[1];
            Edges.refused("P8: cell" + cell, Edges.INDEX, o -> o.cell(0, at[0], at[1], 0));
            Edges.refused("P9: tone" + cell, Edges.INDEX, o -> o.tone(at[0], at[1]));
            Edges.refused("P10: inks" + cell, Edges.INDEX, o -> o.inks(at[0], at[1]));
            Edges.refused("P11: why" + cell, Edges.INDEX, o -> o.why(0, at[0], at[1]));
        }
    }

    /** "if a parameter named plate or other is not the index of a plate" */
    private static void indexesOfPlates() {
        for (int no : new int[] {-1, 2, 3, 4, Integer.MIN_VALUE, Integer.MAX_VALUE}) {
            String plate = " of no plate " + no;
            Edges.refused("P7: plate" + plate, Edges.INDEX, x -> x.plate(no, 0));
            Edges.refused("P8: cell" + plate, Edges.INDEX, x -> x.cell(no, 0, 0, 0));
            Edges.refused("P11: why" + plate, Edges.INDEX, x -> x.why(no, 0, 0));
            Edges.refused("P12: off" + plate, Edges.INDEX, x -> x.off(no, 0));
            Edges.refused("P13: covered" + plate, Edges.INDEX, x -> x.covered(no));
            Edges.refused("P14: moire" + plate, Edges.INDEX, x -> x.moire(no, 1));
            Edges.refused("P14: moire, other" + plate, Edges.INDEX, x -> x.moire(0, no));
            Edges.refused("P16: bestTurn" + plate, Edges.INDEX, x -> x.bestTurn(no));
        }
        TonePlates x = Check.loaded("picture 2 2;plate a 1 0 line;plate b 0 1 line;plate c 1 1 line;plate d 2 0 line;");
        Check.same("in the order in which they were told", "10 1 11 20",
                () -> Edges.row(4, i -> x.plate(i, 0) * 10 + x.plate(i, 1)));
        Check.same("the last of four", 4, () -> x.plate(3, 2));
        Check.fails("no fifth", Edges.INDEX, () -> x.plate(4, 2));
    }

    /** "if what is out of range" and "if dots is out of range" */
    private static void numbersOfWhat() {
        for (int no : new int[] {-1, Integer.MIN_VALUE, Integer.MAX_VALUE}) {
            Edges.refused("P5: state(" + no + ")", Edges.ARGUMENT, x -> x.state(no));
            Edges.refused("P7: plate(0, " + no + ")", Edges.ARGUMENT, x -> x.plate(0, no));
            Edges.refused("P8: cell(0, 0, 0, " + no + ")", Edges.ARGUMENT, x -> x.cell(0, 0, 0, no));
            Edges.refused("P18: cellsWith(" + no + ")", Edges.ARGUMENT, x -> x.cellsWith(no));
        }
        Edges.refused("P5: state(9)", Edges.ARGUMENT, x -> x.state(9));
        Edges.refused("P7: plate(0, 11)", Edges.ARGUMENT, x -> x.plate(0, 11));
        Edges.refused("P8: cell(0, 0, 0, 5)", Edges.ARGUMENT, x -> x.cell(0, 0, 0, 5));
        Edges.refused("P18: cellsWith(5)", Edges.ARGUMENT, x -> x.cellsWith(5));
        TonePlates x = Check.loaded("picture 3 2;tones 100 000;plate k 1 0 line;ink k 70;");
        Check.same("P5: 0 to 8", "3 2 1 4 1 5 1 11 0", () -> Edges.row(9, x::state));
        Check.same("P7: 0 to 10", "1 0 1 1 0 0 70 1 1 6 11", () -> Edges.row(11, i -> x.plate(0, i)));
        Check.same("P8: 0 to 4", "0 11 1 1 0", () -> Edges.row(5, i -> x.cell(0, 0, 0, i)));
        Check.same("P18: 0 to 4", "5 1 0 0 0", () -> Edges.row(5, x::cellsWith));
    }

    /** "If several exceptions apply to a call, the one that is listed first with the method is thrown." */
    private static void theFirstExceptionListed() {
        Edges.refused("P7: no plate, no what", Edges.INDEX, x -> x.plate(2, 11));
        Edges.refused("P8: no plate, no what", Edges.INDEX, x -> x.cell(2, 0, 0, 5));
        Edges.refused("P8: no x, no what", Edges.INDEX, x -> x.cell(0, 4, 0, 5));
        Edges.refused("P8: no y, no what", Edges.INDEX, x -> x.cell(0, 0, 3, -1));
        Edges.refused("P12: no plate, no block", Edges.INDEX, x -> x.off(2, -1));
        Edges.refused("P12: no plate -1, no block", Edges.INDEX, x -> x.off(-1, 999));
    }

    private static void aPictureWithoutPlates() {
        TonePlates x = Check.loaded("picture 5 3;tones 99999 99999 99999;");
        Check.same("P5: without plates", "5 3 0 4 0 15 0 1485 0", () -> Edges.row(9, x::state));
        Check.same("P10: no plate's dots", 0, () -> x.inks(4, 2));
        Check.same("P18: all cells have no dot", "15 0 0 0 0", () -> Edges.row(5, x::cellsWith));
        Check.same("P17: no dots at all", -1, x::copies);
        Check.same("P15: less than 2 plates", -1, () -> x.worst(false));
        Check.same("P15: less than 2 plates, second", -1, () -> x.worst(true));
        Check.fails("P11: why", Edges.INDEX, () -> x.why(0, 0, 0));
        Check.fails("P12: off", Edges.INDEX, () -> x.off(0, 0));
        Check.fails("P13: covered", Edges.INDEX, () -> x.covered(0));
        Check.fails("P14: moire", Edges.INDEX, () -> x.moire(0, 0));
        Check.fails("P16: bestTurn", Edges.INDEX, () -> x.bestTurn(0));
    }

    /** "v mod p is the remainder of v and p that is 0 to p - 1 (also if v is less than 0)" */
    private static void remaindersAreNotNegative() {
        TonePlates x = Check.loaded("picture 10 5;plate a 1 1 round;plate b 0 3 round;plate c 0 2 round;");
        ranksAre(x, 0, 0, "2 0 2 0 2 0 2 0 2 0");
        ranksAre(x, 0, 1, "1 3 1 3 1 3 1 3 1 3");
        ranksAre(x, 1, 0, "72 36 37 73 38 39 74 40 41 72");
        ranksAre(x, 1, 2, "45 6 7 46 8 9 47 10 11 45");
        ranksAre(x, 2, 3, "10 2 11 3 10 2 11 3 10 2");
        ranksAre(x, 2, 4, "12 4 13 5 12 4 13 5 12 4");
    }

    private static void ranksAre(TonePlates x, int plate, int y, String due) {
        int width = x.state(0);
        Check.same("ranks of row " + y + " on " + plate, due, () -> Edges.row(width, i -> x.cell(plate, i, y, 0)));
    }

    /** "ordered by their measures, the smallest first, then by y, then by x" */
    private static void tiesGoByYThenByX() {
        TonePlates x = Check.loaded("picture 5 5;plate a 2 0 line;plate b 1 2 square;plate c 1 2 diamond;");
        ranksAre(x, 0, 0, "8 0 9 1 8");
        ranksAre(x, 0, 1, "10 2 11 3 10");
        ranksAre(x, 0, 3, "14 6 15 7 14");
        ranksAre(x, 0, 4, "8 0 9 1 8");
        for (int plate = 1; plate <= 2; plate++) {
            ranksAre(x, plate, 0, "20 0 1 2 3");
            ranksAre(x, plate, 1, "4 5 6 21 7");
            ranksAre(x, plate, 4, "16 17 24 18 19");
        }
    }

    /** "the rank of a place is its index in this order, from 0" */
    private static void ranksAreAllIndexes() {
        String[] shapes = {"round", "line", "diamond", "square"};
        for (int turn = 1; turn < 16; turn++) {
            int a = turn / 4;
            int b = turn % 4;
            int p = a * a + b * b;
            for (int i = 0; i < 4 && p <= 12; i++) {
                TonePlates x = Check.loaded("picture 16 12;plate k " + a + " " + b + " " + shapes[i] + ";");
                TreeSet<Integer> ranks = new TreeSet<>();
                for (int at = 0; at < p * p; at++) {
                    ranks.add(x.cell(0, at % p, at / p, 0));
                }
                Check.same("all ranks of " + turn, p * p, ranks::size);
                Check.same("the first one", 0, ranks::first);
                Check.same("the last one", p * p - 1, ranks::last);
            }
        }
    }

    /** "the amount (without its sign)", "the greater one of both amounts" */
    private static void measuresOfShapes() {
        TonePlates x = Check.loaded("picture 8 2;plate a 2 3 round;plate b 2 3 line;plate c 2 3 diamond;"
                + "plate d 2 3 square;");
        ranksAre(x, 0, 0, "156 52 0 1 53 54 55 56");
        ranksAre(x, 0, 1, "60 61 4 5 62 157 63 6");
        ranksAre(x, 1, 0, "156 104 52 0 26 78 130 131");
        ranksAre(x, 1, 1, "80 28 2 54 106 157 107 55");
        ranksAre(x, 2, 0, "156 104 0 1 52 105 53 54");
        ranksAre(x, 2, 1, "108 56 4 5 109 157 110 6");
        ranksAre(x, 3, 0, "156 52 0 1 104 53 105 106");
        ranksAre(x, 3, 1, "56 108 4 5 57 157 58 6");
    }

    /** "A screen has two numbers a and b" and a shape: each one of them alone gives other ranks. */
    private static void ranksOfAnotherScreen() {
        TonePlates x = Check.loaded("picture 8 2;plate a 2 2 round;");
        String before = "56 8 0 9 57 10 1 11";
        ranksAre(x, 0, 0, before);
        x.turn(0, 2, 3);
        ranksAre(x, 0, 0, "156 52 0 1 53 54 55 56");
        x.shape(0, 3);
        ranksAre(x, 0, 0, "156 52 0 1 104 53 105 106");
        x.shape(0, 1);
        ranksAre(x, 0, 0, "156 104 52 0 26 78 130 131");
        x.shape(0, 3);
        x.turn(0, 3, 3);
        x.turn(0, 2, 3);
        ranksAre(x, 0, 0, "156 52 0 1 104 53 105 106");
        x.undo();
        x.undo();
        x.shape(0, 0);
        ranksAre(x, 0, 0, "156 52 0 1 53 54 55 56");
        x.turn(0, 2, 2);
        ranksAre(x, 0, 0, before);
        Check.load(x, "picture 8 2;plate a 2 3 round;");
        ranksAre(x, 0, 0, "156 52 0 1 53 54 55 56");
        x.undo();
        ranksAre(x, 0, 0, before);
    }

    /** "the place with (x + dx) mod p and (y + dy) mod p" */
    private static void shiftsWrapAround() {
        TonePlates x = Check.loaded("picture 5 5;plate a 2 0 line;plate b 3 3 round;plate c 3 3 diamond;");
        x.shift(0, 3, 3);
        ranksAre(x, 0, 0, "7 14 6 15 7");
        ranksAre(x, 0, 1, "1 8 0 9 1");
        x.shift(0, 4, 1);
        ranksAre(x, 0, 0, "10 2 11 3 10");
        x.shift(0, 17, 16);
        ranksAre(x, 0, 0, "0 9 1 8 0");
        for (int plate = 1; plate <= 2; plate++) {
            int one = plate;
            String middle = Edges.row(3, i -> x.cell(one, i, i, 0));
            Check.same("the first places of 18", plate == 1 ? "306 234 240" : "306 169 177", () -> middle);
            x.shift(plate, 17, 17);
            Check.same("17 and 1 is 0", plate == 1 ? "305 306 234" : "305 306 169",
                    () -> Edges.row(3, i -> x.cell(one, i, i, 0)));
        }
        x.shift(1, 17, 0);
        Check.same("dx alone", "167 306 162", () -> Edges.row(3, i -> x.cell(1, i, 0, 0)));
        x.shift(1, 0, 17);
        Check.same("dy alone", "231 306 168", () -> Edges.row(3, i -> x.cell(1, 0, i, 0)));
    }

    /** "10 the sum of the tones of all cells on it" */
    private static void tonesOfAPictureBefore() {
        TonePlates x = Check.loaded("picture 16 12;plate k 1 0 line curve 100;");
        Check.same("P7: the sum of the most tones", 19200, () -> x.plate(0, 10));
        Check.same("P5: no curve counts in the sum of all tones", 0, () -> x.state(7));
        x.paint(0, 0, 16, 12, 100);
        Check.same("P5: the sum of the most tones", 19200, () -> x.state(7));
        Check.load(x, "picture 2 1;tones 12;plate k 1 0 line;");
        Check.same("P7: only cells of the picture as it is", 33, () -> x.plate(0, 10));
        Check.same("P5: only cells of the picture as it is", 33, () -> x.state(7));
        Check.same("P5: and their dots", "2 1 1 4 2 0 2 33 0", () -> Edges.row(9, x::state));
        x.undo();
        Check.same("P7: all again", 19200, () -> x.plate(0, 10));
    }

    private static void curveGives(String why, String curve, int due) {
        TonePlates x = Check.loaded("picture 4 3;plate a 1 0 line;plate b 1 0 line;plate k 1 0 line curve " + curve
                + ";tones 5555 5555 5557;");
        Check.same(why + ": " + curve, due, () -> x.cell(2, 3, 2, 1));
    }

    /** "the value of this expression, limited to 0 to 100" */
    private static void tonesOnAPlateAreLimited() {
        for (int value : new int[] {0, 1, 99, 100}) {
            curveGives("within", "" + value, value);
        }
        curveGives("101", "101", 100);
        curveGives("9999", "9999", 100);
        curveGives("less than 0", "0-1", 0);
        curveGives("far less than 0", "0-9999*9999", 0);
        curveGives("far more than 100", "9999*9999", 100);
        curveGives("x", "x", 3);
        curveGives("y", "y", 2);
        curveGives("the index of the plate", "plate", 2);
        curveGives("the tone of the cell", "tone", 77);
        TonePlates x = Check.loaded("picture 2 1;tones 55;plate k 1 0 line curve (tone-55)*9;");
        Check.same("a dot from 1 on", 1, () -> x.paint(0, 0, 1, 1, 56));
        Check.same("none for less than 0", 0, () -> x.paint(0, 0, 1, 1, 54));
        Check.same("the sum of limited tones", 0, () -> x.plate(0, 10));
        x.paint(0, 0, 1, 1, 100);
        Check.same("the sum of limited tones, 405", 100, () -> x.plate(0, 10));
    }

    /** "the result of each one is limited to the range -1000000 to 1000000 ... the nearer bound" */
    private static void resultsAreLimited() {
        String down = "-9999*100-50";
        curveGives("999999 stays", "9999*100+99" + down, 49);
        curveGives("1000000 stays", "9999*100+100" + down, 50);
        curveGives("1000001 is limited", "9999*100+101" + down, 50);
        curveGives("a product of 1000000 stays", "1000*1000" + down, 50);
        curveGives("a product of 999999 stays", "1001*999" + down, 49);
        curveGives("a product of 1000001 is limited", "101*9901" + down, 50);
        curveGives("each product", "1000*1000*9999" + down, 50);
        curveGives("a product beyond an int", "1000*1000*4295" + down, 50);
        curveGives("a product beyond half an int", "1000*1000*3000" + down, 50);
        curveGives("a difference of 1000000 stays", "9999*100-(0-100)" + down, 50);
        curveGives("a difference of 1000001 is limited", "9999*100-(0-101)" + down, 50);
        String up = "+9999*100+150";
        curveGives("-999999 stays", "0-9999*100-99" + up, 51);
        curveGives("-1000000 stays", "0-9999*100-100" + up, 50);
        curveGives("-1000001 is limited", "0-9999*100-101" + up, 50);
        curveGives("a product of -1000000 stays", "(0-1000)*1000" + up, 50);
        curveGives("a product of -999999 stays", "(0-1001)*999" + up, 51);
        curveGives("a product of -1000001 is limited", "(0-101)*9901" + up, 50);
        curveGives("a product beyond an int, below", "(0-1000)*1000*4295" + up, 50);
        curveGives("a product beyond half an int, below", "1000*1000*(0-3000)" + up, 50);
        curveGives("a sum of -1000000 stays", "0-9999*100+(0-100)" + up, 50);
        curveGives("a sum of -1000001 is limited", "0-9999*100+(0-101)" + up, 50);
    }

    /** "Division by 0 gives 0", "Division rounds toward zero", "made from the left to the right" */
    private static void divisionOfACurve() {
        curveGives("by 0", "5/0+7", 7);
        curveGives("0 by 0", "0/0+7", 7);
        curveGives("a negative by 0", "(0-5)/0+7", 7);
        curveGives("by a sum of 0", "99/(x-3)", 0);
        curveGives("it goes on behind it", "5/0*3+4", 4);
        curveGives("by 1", "99/1", 99);
        curveGives("by -1", "0-99/(0-1)", 99);
        curveGives("down to 0", "7/2", 3);
        curveGives("up to 0", "(0-7)/2+10", 7);
        curveGives("up to 0, by a negative", "7/(0-2)+10", 7);
        curveGives("both negative", "(0-7)/(0-2)", 3);
        curveGives("less than 1", "6/7", 0);
        curveGives("divided, then multiplied", "7/2*2", 6);
        curveGives("divided twice", "90/4/3", 7);
        curveGives("subtracted twice", "50-x-y", 45);
        curveGives("a term first", "50-2*3", 44);
        curveGives("all that can be open at once", "1+1*(1+1*(1+1*(1+1*(1+1*x))))", 8);
        curveGives("all that can be open at once", "90-2*(9-2*(9-2*(9-2*(9-2*x))))", 84);
    }

    /** "if rank * 100 is less than tone * p * p" */
    private static void rankTimes100IsLessThanTone() {
        TonePlates x = Check.loaded("picture 2 2;plate k 1 1 line;");
        int[] due = {0, 1, 1, 2, 2, 3, 3, 4, 4};
        int[] tones = {0, 1, 25, 26, 50, 51, 75, 76, 100};
        for (int i = 0; i < due.length; i++) {
            int tone = tones[i];
            Check.same("dots of tone " + tone, due[i], () -> x.paint(0, 0, 2, 2, tone));
        }
        TonePlates one = Check.loaded("picture 1 1;plate k 1 0 line;");
        Check.same("tone 0 never has a dot", 0, () -> one.paint(0, 0, 1, 1, 0));
        Check.same("tone 1 has one of rank 0", 1, () -> one.paint(0, 0, 1, 1, 1));
        TonePlates great = Check.loaded("picture 1 1;plate k 3 3 round;");
        great.shift(0, 17, 17);
        Check.same("the rank 305 of 324, tone 94", 0, () -> great.paint(0, 0, 1, 1, 94));
        Check.same("the rank 305 of 324, tone 95", 1, () -> great.paint(0, 0, 1, 1, 95));
    }

    /** "a plate puts no dot on a cell that has as many dots of the plates before as the limit tells" */
    private static void theLimitOfDots() {
        TonePlates x = Check.loaded("picture 2 1;tones 99;plate a 1 0 line;plate b 1 0 line curve x*9;"
                + "plate c 1 0 line;plate d 1 0 line;");
        int[][] due = {{1, 1}, {5, 3}, {13, 7}, {13, 15}};
        for (int limit = 1; limit <= 4; limit++) {
            x.limit(limit);
            Check.same("P10: inks of the first, limit " + limit, due[limit - 1][0], () -> x.inks(0, 0));
            Check.same("P10: inks of the second, limit " + limit, due[limit - 1][1], () -> x.inks(1, 0));
            int whyLast = limit < 3 ? 3 : 0;
            Check.same("P11: why not the last, limit " + limit, whyLast, () -> x.why(3, 0, 0));
            Check.same("P11: why not b, limit " + limit, 2, () -> x.why(1, 0, 0));
        }
        x.limit(1);
        x.paint(0, 0, 2, 1, 0);
        Check.same("P10: plates behind do not count", 2, () -> x.inks(1, 0));
    }

    /** "beyond the picture there are none" */
    private static void spotsAtTheBorder() {
        TonePlates one = Check.loaded("picture 1 1;tones 9;plate k 1 0 line;");
        Check.same("the only cell", 1, () -> one.cell(0, 0, 0, 3));
        TonePlates corners = Check.loaded("picture 3 3;tones 909 000 909;plate k 1 0 line;");
        Check.same("four corners", 4, () -> corners.plate(0, 8));
        TonePlates rows = Check.loaded("picture 3 2;tones 009 900;plate k 1 0 line;");
        Check.same("the end of a row is not beside the next one", 2, () -> rows.plate(0, 8));
        TonePlates wide = Check.loaded("picture 4 1;tones 9009;plate k 1 0 line;");
        Check.same("both ends of a row", 2, () -> wide.plate(0, 8));
        TonePlates high = Check.loaded("picture 1 4;tones 9 0 0 9;plate k 1 0 line;");
        Check.same("both ends of a column", 2, () -> high.plate(0, 8));
        TonePlates old = Check.loaded("picture 16 12;tones" + " 9999999999999999".repeat(12) + ";plate k 1 0 line;");
        Check.same("no spot among many", 0, () -> old.plate(0, 8));
        Check.load(old, "picture 3 3;tones 909 000 909;plate k 1 0 line;");
        Check.same("dots of a picture before do not count", 4, () -> old.plate(0, 8));
    }

    /** "no dot of its plate on any of the cells above, below, to the left and to the right" */
    private static void spotsOnEachSide() {
        String[] rows = {"090 090 000", "000 090 090", "000 990 000", "000 099 000"};
        for (String tones : rows) {
            TonePlates x = Check.loaded("picture 3 3;tones " + tones + ";plate k 1 0 line;");
            Check.same("one beside it, " + tones, 0, () -> x.cell(0, 1, 1, 3));
            Check.same("no spots, " + tones, 0, () -> x.plate(0, 8));
            Check.same("none to clean, " + tones, 0, () -> x.clean(0));
        }
        TonePlates across = Check.loaded("picture 3 3;tones 909 090 909;plate k 1 0 line;");
        Check.same("across a corner it is not beside", 5, () -> across.plate(0, 8));
        TonePlates other = Check.loaded("picture 3 3;tones 090 949 090;plate a 1 0 line curve tone-44;"
                + "plate b 1 0 line curve 45-tone;");
        Check.same("dots of a around it", 4, () -> other.plate(0, 7) + other.cell(0, 1, 1, 2));
        Check.same("a dot of b", 1, () -> other.cell(1, 1, 1, 2));
        Check.same("dots of another plate do not count", 1, () -> other.cell(1, 1, 1, 3));
        Check.same("no dot is no spot", 0, () -> other.cell(1, 1, 0, 3));
    }

    /** "those that are whole cells of the picture only: there are width / p in each of height / p rows" */
    private static void blocksAreWholeCells() {
        int[][] sizes = {{1, 1, 4, 0}, {3, 4, 4, 0}, {4, 3, 4, 0}, {4, 4, 4, 1}, {7, 7, 4, 1}, {8, 7, 4, 2}, {7, 8, 4, 2},
            {8, 8, 4, 4}, {16, 12, 4, 12}, {16, 12, 1, 192}, {1, 1, 1, 1}, {16, 12, 9, 1}};
        for (int[] size : sizes) {
            int a = size[2] == 9 ? 3 : size[2] == 4 ? 2 : 1;
            TonePlates x = Check.loaded("picture " + size[0] + " " + size[1] + ";plate k " + a + " 0 line;");
            String told = size[0] + " by " + size[1] + " with p " + size[2];
            Check.same("P7: blocks, " + told, size[3], () -> x.plate(0, 9));
            Check.fails("P12: behind the last, " + told, NoSuchElementException.class, () -> x.off(0, size[3]));
            if (size[3] > 0) {
                Check.same("P12: the last, " + told, 0, () -> x.off(0, size[3] - 1));
            }
        }
        TonePlates x = Check.loaded("picture 16 12;plate k 2 3 line;plate m 3 3 line;");
        Check.same("P7: 13 is higher than 12", 0, () -> x.plate(0, 9));
        Check.same("P7: 18 is wider than 16", 0, () -> x.plate(1, 9));
        Check.fails("P12: no block of 13", NoSuchElementException.class, () -> x.off(0, 0));
        Check.fails("P12: no block of 18", NoSuchElementException.class, () -> x.off(1, 0));
    }

    /** "indexes from 0, row by row from the left" and "if it has no such block" */
    private static void blocksOfAPlate() {
        TonePlates x = Check.loaded("picture 5 5;tones 10203 00009 40506 00009 99999;plate k 1 1 line curve tone/11;");
        // Each whole block has a dot but for the tone 0: 1 is under the rank 2, and 6 too.
        Check.same("four blocks", "-1 -2 -4 -5", () -> Edges.row(4, i -> x.off(0, i)));
        for (int no : new int[] {-1, 4, 5, Integer.MIN_VALUE, Integer.MAX_VALUE}) {
            Check.fails("P12: block " + no, NoSuchElementException.class, () -> x.off(0, no));
            Edges.refused("P12: block " + no, NoSuchElementException.class, o -> o.off(0, no));
        }
    }

    /** "100 * its dots less the sum of its tones on this plate" */
    private static void offIsLessOrMore() {
        TonePlates x = Check.loaded("picture 2 2;plate k 1 1 line;");
        int[][] due = {{0, 0}, {1, 96}, {25, 0}, {26, 96}, {50, 0}, {75, 0}, {76, 96}, {99, 4}, {100, 0}};
        for (int[] one : due) {
            x.paint(0, 0, 2, 2, one[0]);
            Check.same("P12: off of tone " + one[0], one[1], () -> x.off(0, 0));
        }
        x.paint(0, 0, 1, 1, 0);
        Check.same("P12: less tone on one cell", 0, () -> x.off(0, 0));
        TonePlates y = Check.loaded("picture 1 1;tones 9;plate a 1 0 line;plate b 1 0 line curve tone-9;limit 1;");
        Check.same("P12: more than tones", 1, () -> y.off(0, 0));
        Check.same("P12: less than tones", -90, () -> y.off(1, 0));
        y.clean(0);
        Check.same("P12: cleaned away", -99, () -> y.off(0, 0));
    }

    /** "5 cells without any dot, 6 cells with as many dots as there are plates" */
    private static void cellsWithAllOrNone() {
        TonePlates x = Check.loaded("picture 4 1;tones 0123;plate a 1 0 line;plate b 1 0 line curve tone-11;"
                + "plate c 1 0 line curve tone-22;plate d 1 0 line curve tone-33;");
        Check.same("P18: cells with 0 to 4", "1 1 1 1 0", () -> Edges.row(5, x::cellsWith));
        Check.same("P5: without any", 1, () -> x.state(5));
        Check.same("P5: with all", 0, () -> x.state(6));
        x.paint(3, 0, 1, 1, 34);
        Check.same("P5: one with all", 1, () -> x.state(6));
        Check.same("P18: one with 4", "1 1 1 0 1", () -> Edges.row(5, x::cellsWith));
        x.limit(3);
        Check.same("P18: no cell with 4", "1 1 1 1 0", () -> Edges.row(5, x::cellsWith));
        Check.same("P5: none with all", 0, () -> x.state(6));
        x.paint(0, 0, 4, 1, 0);
        Check.same("P5: all without any", 4, () -> x.state(5));
        x.limit(4);
        x.paint(0, 0, 4, 1, 100);
        Check.same("P5: none without any", 0, () -> x.state(5));
        Check.same("P5: all with all", 4, () -> x.state(6));
        Check.same("P18: all cells with 4", "0 0 0 0 4", () -> Edges.row(5, x::cellsWith));
    }

    /** "8 dots that were cleaned away (also where none would be now)" */
    private static void cleanedAwayWhereNoneWouldBe() {
        TonePlates x = Check.loaded("picture 3 1;tones 909;plate a 1 0 line;plate b 1 0 line;");
        Check.same("P5: none at first", 0, () -> x.state(8));
        x.clean(0);
        Check.same("P5: two of a", 2, () -> x.state(8));
        x.clean(1);
        Check.same("P5: two of each", 4, () -> x.state(8));
        x.paint(0, 0, 3, 1, 0);
        Check.same("P5: also without tones", 4, () -> x.state(8));
        Check.same("P8: also without tones", "1 0 1", () -> Edges.row(3, i -> x.cell(0, i, 0, 4)));
        x.dirty(0);
        Check.same("P5: those of b are left", 2, () -> x.state(8));
        Check.same("P8: taken back", "0 0 0", () -> Edges.row(3, i -> x.cell(0, i, 0, 4)));
        Check.same("P8: not of b", "1 0 1", () -> Edges.row(3, i -> x.cell(1, i, 0, 4)));
    }

    /** "the first that applies: 1 it was cleaned away, 2 its rank is too great, 3 the plates before" */
    private static void whyTheFirstThatApplies() {
        TonePlates x = Check.loaded("picture 3 1;tones 909;plate a 1 0 line;plate b 1 0 line;limit 1;");
        Check.same("P11: a dot, no tone, a dot", "0 2 0", () -> Edges.row(3, i -> x.why(0, i, 0)));
        Check.same("P11: the limit, no tone, the limit", "3 2 3", () -> Edges.row(3, i -> x.why(1, i, 0)));
        x.limit(2);
        x.clean(1);
        x.limit(1);
        Check.same("P11: cleaned away ahead of the limit", "1 2 1", () -> Edges.row(3, i -> x.why(1, i, 0)));
        x.paint(0, 0, 1, 1, 0);
        Check.same("P11: cleaned away ahead of the rank", "1 2 1", () -> Edges.row(3, i -> x.why(1, i, 0)));
        Check.same("P11: the rank of a", "2 2 0", () -> Edges.row(3, i -> x.why(0, i, 0)));
        TonePlates y = Check.loaded("picture 1 1;tones 9;plate a 1 0 line;plate b 1 0 line curve 0;limit 1;");
        Check.same("P11: the rank ahead of the limit", 2, () -> y.why(1, 0, 0));
    }

    /** "the dots of a plate and the cells of the picture, both converted to float and divided" */
    private static void coveredNoneOrAll() {
        TonePlates x = Check.loaded("picture 16 12;plate k 1 0 line;");
        Check.same("P13: none", 0.0f, () -> x.covered(0));
        x.paint(0, 0, 1, 1, 1);
        Check.same("P13: one of 192", 1.0f / 192.0f, () -> x.covered(0));
        x.paint(0, 0, 16, 12, 1);
        Check.same("P13: all", 1.0f, () -> x.covered(0));
        TonePlates y = Check.loaded("picture 7 1;tones 1110000;plate k 1 0 line;");
        Check.same("P13: 3 of 7", 3.0f / 7.0f, () -> y.covered(0));
        TonePlates one = Check.loaded("picture 1 1;tones 1;plate k 0 1 line;");
        Check.same("P13: one of one", 1.0f, () -> one.covered(0));
        one.paint(0, 0, 1, 1, 0);
        Check.same("P13: none of one", 0.0f, () -> one.covered(0));
    }

    /** "0.0 if e is 0" */
    private static void moireOfOneScreen() {
        TonePlates x = Check.loaded("picture 2 2;plate a 3 2 line;plate b 3 2 round;plate c 2 3 line;plate d 1 0 line;");
        Check.same("P14: with itself", 0.0, () -> x.moire(0, 0));
        Check.same("P14: with an equal screen", 0.0, () -> x.moire(0, 1));
        Check.same("P14: with a mirrored one", 28561.0 / 338.0, () -> x.moire(0, 2));
        Check.same("P14: both ways", 28561.0 / 338.0, () -> x.moire(2, 0));
        Check.same("P14: with 1 0", 169.0 / 104.0, () -> x.moire(3, 0));
        x.turn(3, 2, 0);
        Check.same("P14: with 2 0", 2704.0 / 260.0, () -> x.moire(3, 0));
    }

    private static void worstIs(String why, int first, int second, String plates) {
        TonePlates x = Check.loaded("picture 2 2;" + plates);
        Check.same("P15: " + why, first, () -> x.worst(false));
        Check.same("P15: " + why + ", second", second, () -> x.worst(true));
    }

    /** "-1 if there are less than 2 plates" */
    private static void worstOfFewPlates() {
        worstIs("no plate", -1, -1, "");
        worstIs("one plate", -1, -1, "plate a 3 2 line;");
        worstIs("two plates", 0, 1, "plate a 3 2 line;plate b 1 0 line;");
        worstIs("two equal plates: a moire of 0", 0, 1, "plate a 3 2 line;plate b 3 2 line;");
        worstIs("the last two of four", 2, 3, "plate a 1 0 line;plate b 1 0 line;plate c 2 3 line;plate d 3 3 line;");
    }

    /** "of several the one whose smaller index is smaller, of these the one whose greater index is smaller" */
    private static void worstOfEqualPairs() {
        worstIs("four equal plates", 0, 1, "plate a 1 0 line;plate b 1 0 line;plate c 1 0 line;plate d 1 0 line;");
        worstIs("0 2 and 1 2", 0, 2, "plate a 1 0 line;plate b 1 0 line;plate c 1 1 line;");
        worstIs("0 1 and 0 2", 0, 1, "plate a 1 0 line;plate b 1 1 line;plate c 1 1 line;");
        worstIs("0 3, 1 2 and more", 0, 2, "plate a 1 0 line;plate b 1 0 line;plate c 1 1 line;plate d 1 1 line;");
        worstIs("1 2 and 1 3", 1, 2, "plate a 1 0 line;plate b 3 3 line;plate c 2 3 line;plate d 2 3 line;");
        worstIs("0 3 and 1 2", 0, 3, "plate a 0 1 line;plate b 1 0 line;plate c 2 0 line;plate d 0 2 line;");
        worstIs("1 3 and 2 3", 1, 3, "plate a 0 1 line;plate b 0 2 line;plate c 0 2 line;plate d 0 3 line;");
    }

    /** "those of its screen as it is, if there is no other plate" */
    private static void bestTurnAlone() {
        for (int turn = 1; turn < 16; turn++) {
            int due = turn / 4 * 10 + turn % 4;
            TonePlates x = Check.loaded("picture 2 2;plate k " + turn / 4 + " " + turn % 4 + " line;");
            Check.same("P16: alone", due, () -> x.bestTurn(0));
        }
        TonePlates x = Check.loaded("picture 2 2;plate k 1 0 line;");
        x.turn(0, 3, 2);
        Check.same("P16: alone, turned", 32, () -> x.bestTurn(0));
    }

    /** "of all from 0 to 3 but both 0" and "of several the smallest" */
    private static void bestTurnOfSeveral() {
        for (int turn = 1; turn < 16; turn++) {
            int due = turn / 4 * 10 + turn % 4;
            TonePlates x = Check.loaded("picture 2 2;plate a 1 2 line;plate b " + turn / 4 + " " + turn % 4 + " line;");
            Check.same("P16: as the other one, moire 0", due, () -> x.bestTurn(0));
            Check.same("P16: the screen stays", 12, () -> x.plate(0, 0) * 10 + x.plate(0, 1));
        }
        String[] others = {"0 1 line;plate c 1 0", "0 3 line;plate c 1 0", "0 2 line;plate c 2 0",
            "1 0 line;plate c 2 3", "3 2 line;plate c 0 1", "2 2 line;plate c 1 0", "0 3 line;plate c 3 0"};
        int[] due = {1, 3, 2, 10, 1, 1, 1};
        for (int i = 0; i < due.length; i++) {
            TonePlates x = Edges.taken("P16", 3, "picture 2 2;plate a 3 1 line;plate b " + others[i] + " line;");
            Check.same("P16: of several the smallest, " + others[i], due[i], () -> x.bestTurn(0));
            Check.same("P16: it is no change", 0, x::undo);
        }
        TonePlates equal = Check.loaded("picture 2 2;plate a 1 0 line;plate b 0 1 line;plate c 1 0 line;");
        Check.same("P16: the smallest, not the screen as it is", 1, () -> equal.bestTurn(0));
        TonePlates each = Check.loaded("picture 2 2;plate a 0 2 line;plate b 3 1 line;plate c 2 0 line;");
        Check.same("P16: each of three, by all others", "1 2 10", () -> Edges.row(3, each::bestTurn));
        TonePlates four = Check.loaded("picture 2 2;plate a 1 0 line;plate b 3 1 line;plate c 2 3 line;plate d 3 3 line;");
        Check.same("P16: each of four, by all others", "1 10 1 1", () -> Edges.row(4, four::bestTurn));
    }

    /** "-1 if there are no dots at all" */
    private static void copiesOfNoDots() {
        TonePlates x = Check.loaded("picture 2 1;plate a 1 0 line;plate b 1 0 line curve 0;");
        Check.same("P17: no dots", -1, x::copies);
        x.paint(0, 0, 1, 1, 1);
        Check.same("P17: one dot", 1000, x::copies);
        x.clean(0);
        Check.same("P17: cleaned away", -1, x::copies);
        Check.load(x, "picture 2 1;tones 11;plate a 1 0 line;plate b 1 0 line;plate c 1 0 line;plate d 1 0 line;ink d 5;");
        Check.same("P17: four plates", 2, x::copies);
        Check.load(x, "picture 2 1;tones 11;plate a 1 0 line curve 0;");
        Check.same("P17: dots of plates before do not count", -1, x::copies);
    }

    /** "the number of copies that can be printed with the ink that there is (plates without dots ...)" */
    private static void copiesOfLittleInk() {
        int[][] due = {{0, 0}, {2, 0}, {3, 1}, {5, 1}, {6, 2}, {99999, 33333}};
        for (int[] one : due) {
            TonePlates x = Check.loaded("picture 3 1;tones 111;plate a 1 0 line;plate b 1 0 line curve 0;ink b 0;"
                    + "ink a " + one[0] + ";");
            Check.same("P17: ink " + one[0] + " for 3 dots", one[1], x::copies);
        }
        TonePlates first = Check.loaded("picture 3 1;tones 111;plate a 1 0 line;plate b 1 0 line curve x;ink a 8;"
                + "ink b 6;");
        Check.same("P17: the first ends it", 2, first::copies);
        TonePlates second = Check.loaded("picture 3 1;tones 111;plate a 1 0 line;plate b 1 0 line curve x;ink a 9;"
                + "ink b 5;");
        Check.same("P17: the second ends it", 2, second::copies);
        TonePlates dry = Check.loaded("picture 3 1;tones 111;plate a 1 0 line;plate b 1 0 line;ink a 2;");
        Check.same("P17: the first has too little for one", 0, dry::copies);
        dry.fill(0, 1);
        Check.same("P17: and just enough", 1, dry::copies);
    }
}
