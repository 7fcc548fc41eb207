/** The edges that the document's words on the setup text name (promise 3), each with an offset. */
public final class TextEdgesTest {
    private static final int SYNTAX = TonePlates.SYNTAX_ERROR;
    private static final int RANGE = TonePlates.OUT_OF_RANGE;
    private static final int NAME = TonePlates.NAME_ERROR;
    private static final int MANY = TonePlates.TOO_MANY;
    private static final int DEEP = TonePlates.TOO_DEEP;

    private static final String CURVE = "picture 4 2;plate k 1 0 line curve ";
    private static final String FOUR = "picture 4 2;plate a 1 0 line;plate b 1 0 line;plate c 1 0 line;"
            + "plate d 1 0 line;";

    public static void main(String[] args) {
        sizesOfThePicture();
        sizesThatOverflow();
        numbersOfAnyLength();
        leastAndMostStatements();
        numbersOfLines();
        digitsOfLines();
        tonesOfDigits();
        atMostFourPlates();
        turnsOfPlates();
        lettersOfNames();
        namesAreNew();
        inkOfPlatesBefore();
        amountsOfInk();
        limits();
        onceEach();
        factors();
        leastAndMostOfASum();
        parentheses();
        runsAreAsLongAsPossible();
        spaces();
        noOtherByteSeparates();
        bytesBesideLettersAndDigits();
        theEndOfTheText();
        theSmallestOffsetCounts();
        kindsAtTheSameOffset();
        Check.end("TextEdgesTest");
    }

    /** "a width (1 to 16) and a height (1 to 12)" */
    private static void sizesOfThePicture() {
        Edges.error("width 0", RANGE, "picture |0 2;");
        Edges.error("width 17", RANGE, "picture |17 2;");
        Edges.error("height 0", RANGE, "picture 2 |0;");
        Edges.error("height 13", RANGE, "picture 2 |13;");
        for (int[] size : new int[][] {{1, 1}, {16, 1}, {1, 12}, {16, 12}, {2, 3}}) {
            TonePlates x = Edges.taken("size", 0, "picture " + size[0] + " " + size[1] + ";");
            Check.same("the width", size[0], () -> x.state(0));
            Check.same("the height", size[1], () -> x.state(1));
            Check.same("the cells", size[0] * size[1], () -> x.state(5));
            Check.same("the last cell", 0, () -> x.tone(size[0] - 1, size[1] - 1));
            Check.fails("no cell to the right", Edges.INDEX, () -> x.tone(size[0], size[1] - 1));
            Check.fails("no cell below", Edges.INDEX, () -> x.tone(size[0] - 1, size[1]));
        }
    }

    private static void sizesThatOverflow() {
        for (String number : new String[] {"4294967297", "2147483648", "4294967296", "18446744073709551617", "257",
            "65537", "1000001", "10000000000000000000000000000000000001"}) {
            Edges.error("width", RANGE, "picture |" + number + " 1;");
            Edges.error("height", RANGE, "picture 1 |" + number + ";");
            Edges.error("a", RANGE, "picture 4 2;plate k |" + number + " 1 line;");
            Edges.error("b", RANGE, "picture 4 2;plate k 1 |" + number + " line;");
            Edges.error("limit", RANGE, "picture 4 2;limit |" + number + ";");
        }
        Edges.error("ink", RANGE, "picture 4 2;plate k 1 0 line;ink k |4294967297;");
        Edges.error("ink", RANGE, "picture 4 2;plate k 1 0 line;ink k |18446744073709551617;");
        Edges.error("factor", RANGE, CURVE + "|4294967297;");
        Edges.error("factor", RANGE, CURVE + "|18446744073709551617;");
    }

    /** "of any length (leading zeros do not matter)" */
    private static void numbersOfAnyLength() {
        String zeros = "0".repeat(500);
        TonePlates x = Edges.taken("zeros", 0, "picture " + zeros + "5 0003;");
        Check.same("the width behind zeros", 5, () -> x.state(0));
        Check.same("the height behind zeros", 3, () -> x.state(1));
        Edges.error("zeros alone", RANGE, "picture |" + zeros + " 3;");
        Edges.error("a long number", RANGE, "picture |" + "9".repeat(592));
        TonePlates y = Edges.taken("zeros", 1, "picture 4 2;plate k 0003 0002 line curve 00000009;limit 003;"
                + "ink k 00000000099999;");
        Check.same("a behind zeros", 3, () -> y.plate(0, 0));
        Check.same("b behind zeros", 2, () -> y.plate(0, 1));
        Check.same("a factor behind zeros", 9, () -> y.cell(0, 0, 0, 1));
        Check.same("the limit behind zeros", 3, () -> y.state(3));
        Check.same("ink behind zeros", 99999, () -> y.plate(0, 6));
    }

    /** setup = "picture" number number ";" { statement ";" } */
    private static void leastAndMostStatements() {
        Edges.taken("no statement", 0, "picture 4 2;");
        Edges.error("an empty statement", SYNTAX, "picture 4 2;|;");
        Edges.error("no \";\" behind picture", SYNTAX, "picture 4 2 |limit 3;");
        Edges.error("no \";\" behind a statement", SYNTAX, "picture 4 2;limit 3 |limit 3;");
        Edges.error("no picture", SYNTAX, "|limit 3;");
        Edges.error("a second picture", SYNTAX, "picture 4 2;|picture 4 2;");
        Edges.error("one number", SYNTAX, "picture 4|;");
        Edges.error("three numbers", SYNTAX, "picture 4 2 |2;");
        Edges.error("a third number too great", SYNTAX, "picture 4 2 |99;");
        StringBuilder many = new StringBuilder("picture 4 2;plate k 1 0 line;");
        int last = 0;
        while (many.length() <= 590) {
            last++;
            many.append("ink k ").append(last % 10).append(';');
        }
        int ink = last % 10;
        TonePlates x = Edges.taken("very many statements", 1, many.toString());
        Check.same("the last of very many", ink, () -> x.plate(0, 6));
    }

    /** "as many as the height" and "a line of tones too many, or a ";" ahead of the last one" */
    private static void numbersOfLines() {
        Edges.taken("one line", 0, "picture 4 1;tones 1111;");
        Edges.taken("twelve lines", 0, "picture 2 12;tones" + " 11".repeat(12) + ";");
        Edges.error("no line", SYNTAX, "picture 4 1;tones|;");
        Edges.error("one of two", SYNTAX, "picture 4 2;tones 1111|;");
        Edges.error("eleven of twelve", SYNTAX, "picture 2 12;tones" + " 11".repeat(11) + "|;");
        Edges.error("two of one", SYNTAX, "picture 4 1;tones 1111 |1111;");
        Edges.error("thirteen of twelve", SYNTAX, "picture 2 12;tones" + " 11".repeat(12) + " |11;");
        Edges.error("a sign instead of a line", SYNTAX, "picture 4 2;tones 1111|,1111;");
        Edges.error("a word instead of a line", SYNTAX, "picture 4 2;tones |aaaa 1111;");
    }

    /** "a line that has not as many digits as the width, at its first digit" */
    private static void digitsOfLines() {
        Edges.error("three of four", RANGE, "picture 4 2;tones |111 1111;");
        Edges.error("five of four", RANGE, "picture 4 2;tones |11111 1111;");
        Edges.error("three of four in the last line", RANGE, "picture 4 2;tones 1111 |111;");
        Edges.error("five of four in the last line", RANGE, "picture 4 2;tones 1111 |01111;");
        Edges.error("leading zeros count in a line", RANGE, "picture 4 2;tones |00001111 1111;");
        Edges.error("fifteen of sixteen", RANGE, "picture 16 1;tones |123456789012345;");
        Edges.error("seventeen of sixteen", RANGE, "picture 16 1;tones |12345678901234567;");
        Edges.error("two of one", RANGE, "picture 1 1;tones |11;");
        Edges.taken("one of one", 0, "picture 1 1;tones 1;");
        Edges.taken("sixteen of sixteen", 0, "picture 16 1;tones 1234567890123456;");
    }

    /** "the tone of a cell is 11 times its digit" and "the rows of the picture from the top" */
    private static void tonesOfDigits() {
        TonePlates x = Edges.taken("digits", 0, "picture 5 2;tones 01234 56789;");
        Check.same("the first row", "0 11 22 33 44", () -> Edges.row(5, i -> x.tone(i, 0)));
        Check.same("the second row", "55 66 77 88 99", () -> Edges.row(5, i -> x.tone(i, 1)));
        TonePlates y = Edges.taken("no tones", 0, "picture 5 2;");
        Check.same("tones are 0 at first", 0, () -> y.state(7));
    }

    /** "There are at most 4 plates" and "a 5th plate, at the first letter of its statement" */
    private static void atMostFourPlates() {
        TonePlates x = Edges.taken("four plates", 4, FOUR);
        Check.same("four plates are told", 4, () -> x.state(2));
        Check.put(x, "d");
        Check.same("the 4th has the index 3", 3, () -> x.find(1));
        Edges.error("a 5th", MANY, FOUR + "|plate e 1 0 line;");
        Edges.error("a 5th behind other statements", MANY, FOUR + "limit 3; ink a 4;  |plate e 1 0 line;");
        Edges.taken("statements behind the 4th", 4, FOUR + "limit 3;ink a 4;tones 1111 2222;");
    }

    /** "two numbers a and b (each 0 to 3, not both 0)" and "also b, if a and b are 0" */
    private static void turnsOfPlates() {
        for (int turn = 1; turn < 16; turn++) {
            int a = turn / 4;
            int b = turn % 4;
            TonePlates x = Edges.taken("turn", 1, "picture 4 2;plate k " + a + " " + b + " line;");
            Check.same("a", a, () -> x.plate(0, 0));
            Check.same("b", b, () -> x.plate(0, 1));
            Check.same("p", a * a + b * b, () -> x.plate(0, 2));
        }
        Edges.error("a 4", RANGE, "picture 4 2;plate k |4 0 line;");
        Edges.error("a 4, b 4", RANGE, "picture 4 2;plate k |4 4 line;");
        Edges.error("b 4", RANGE, "picture 4 2;plate k 0 |4 line;");
        Edges.error("b 4 with a 3", RANGE, "picture 4 2;plate k 3 |4 line;");
        Edges.error("both 0", RANGE, "picture 4 2;plate k 0 |0 line;");
        Edges.error("both 0, with many digits", RANGE, "picture 4 2;plate k 00 |000 line;");
    }

    /** "A name is a word of 1 to 6 letters (any one, also one of the words above)." */
    private static void lettersOfNames() {
        Edges.taken("1 letter", 1, "picture 4 2;plate z 1 0 line;ink z 4;");
        Edges.taken("6 letters", 1, "picture 4 2;plate abcxyz 1 0 line;ink abcxyz 4;");
        Edges.error("7 letters", RANGE, "picture 4 2;plate |abcdefg 1 0 line;");
        Edges.error("7 letters behind ink", RANGE, "picture 4 2;plate abcdef 1 0 line;ink |abcdefg 4;");
        Edges.error("\"picture\" has 7", RANGE, "picture 4 2;plate |picture 1 0 line;");
        Edges.error("\"diamond\" has 7", RANGE, "picture 4 2;plate |diamond 1 0 line;");
        Edges.error("no letter", SYNTAX, "picture 4 2;plate |1 0 line;");
        Edges.error("no letter behind ink", SYNTAX, "picture 4 2;plate k 1 0 line;ink |4;");
        for (String word : new String[] {"tones", "plate", "curve", "ink", "limit", "round", "line", "square", "tone",
            "x", "y"}) {
            TonePlates x = Edges.taken("a word above", 1, "picture 4 2;plate " + word + " 1 0 line;ink " + word
                    + " 4;");
            Check.same("the ink of " + word, 4, () -> x.plate(0, 6));
        }
    }

    /** "a name for a plate that a plate has already" */
    private static void namesAreNew() {
        String one = "picture 4 2;plate abcdef 1 0 line;";
        Edges.error("the same name", NAME, one + "plate |abcdef 1 0 line;");
        Edges.error("the same as the first of three", NAME, one + "plate b 1 0 line;plate c 1 0 line;"
                + "plate |abcdef 1 0 line;");
        Edges.error("the same as the third of three", NAME, one + "plate b 1 0 line;plate c 1 0 line;"
                + "plate |c 1 0 line;");
        Edges.taken("a part of a name", 2, one + "plate abcde 1 0 line;");
        Edges.taken("the other end of a name", 2, one + "plate bcdef 1 0 line;");
        Edges.taken("another last letter", 2, one + "plate abcdeg 1 0 line;");
        Edges.taken("another first letter", 2, one + "plate bbcdef 1 0 line;");
        Edges.taken("a longer name", 2, "picture 4 2;plate k 1 0 line;plate kk 1 0 line;");
        TonePlates x = Check.loaded("picture 4 2;plate k 1 0 line;");
        Check.same("names of the text before are free", 1, () -> Check.load(x, "picture 4 2;plate k 2 0 line;"));
    }

    /** "a name of ink that no plate has that was told before" */
    private static void inkOfPlatesBefore() {
        Edges.error("no plate", NAME, "picture 4 2;ink |k 4;");
        Edges.error("told behind it", NAME, "picture 4 2;ink |k 4;plate k 1 0 line;");
        Edges.error("told behind it, with others before", NAME, FOUR + "ink |e 4;");
        Edges.error("a part of a name", NAME, "picture 4 2;plate kk 1 0 line;ink |k 4;");
        Edges.error("more than a name", NAME, "picture 4 2;plate k 1 0 line;ink |kk 4;");
        TonePlates other = Check.loaded("picture 4 2;plate k 1 0 line;");
        Check.same("a plate of the text before", NAME, () -> Check.load(other, "picture 4 2;ink k 4;"));
        TonePlates x = Edges.taken("right behind it", 4, FOUR + "ink d 4;ink a 5;ink d 6;");
        Check.same("of several the last one counts", 6, () -> x.plate(3, 6));
        Check.same("the ink of a", 5, () -> x.plate(0, 6));
        Check.same("ink is 1000 at first", 1000, () -> x.plate(1, 6));
    }

    /** "ink (0 to 99999, 1000 at first)" */
    private static void amountsOfInk() {
        for (int ink : new int[] {0, 1, 99998, 99999}) {
            TonePlates x = Edges.taken("ink", 1, "picture 4 2;plate k 1 0 line;ink k " + ink + ";");
            Check.same("the ink", ink, () -> x.plate(0, 6));
        }
        Edges.error("ink 100000", RANGE, "picture 4 2;plate k 1 0 line;ink k |100000;");
        Edges.error("ink 999999", RANGE, "picture 4 2;plate k 1 0 line;ink k |999999;");
    }

    /** "the limit (1 to 4, 4 at first)" */
    private static void limits() {
        for (int limit = 1; limit <= 4; limit++) {
            int due = limit;
            TonePlates x = Edges.taken("limit", 0, "picture 4 2;limit " + limit + ";");
            Check.same("the limit", due, () -> x.state(3));
            Check.same("4 at first", 0, () -> Check.load(x, "picture 4 2;"));
            Check.same("whatever it was before", 4, () -> x.state(3));
        }
        Edges.error("limit 0", RANGE, "picture 4 2;limit |0;");
        Edges.error("limit 5", RANGE, "picture 4 2;limit |5;");
        Edges.error("two limits", SYNTAX, "picture 4 2;limit 1 |1;");
    }

    /** "The statements tones and limit may occur once each." */
    private static void onceEach() {
        Edges.taken("one of each", 1, "picture 4 1;limit 3;plate k 1 0 line;tones 1111;");
        Edges.error("limit twice", SYNTAX, "picture 4 1;limit 3;|limit 3;");
        Edges.error("limit twice, others between", SYNTAX, "picture 4 1;limit 3;tones 1111;  |limit 3;");
        Edges.error("tones twice", SYNTAX, "picture 4 1;tones 1111;|tones 1111;");
        Edges.error("tones twice, others between", SYNTAX, "picture 4 1;tones 0000;limit 4; |tones 1111;");
        TonePlates x = Check.loaded("picture 4 1;limit 3;tones 1111;");
        Check.same("once each in every text", 0, () -> Check.load(x, "picture 4 1;limit 2;tones 2222;"));
        Check.same("after an error, too", SYNTAX, () -> Check.load(x, "picture 4 1;limit 2;tones 2222;!"));
        Check.same("again", 0, () -> Check.load(x, "picture 4 1;tones 2222;limit 2;"));
    }

    /** "A number as a factor is 0 to 9999." */
    private static void factors() {
        TonePlates x = Edges.taken("factors", 2, "picture 4 2;plate a 1 0 line curve 0;"
                + "plate b 1 0 line curve 9999-9990;");
        Check.same("the factor 0", 0, () -> x.cell(0, 0, 0, 1));
        Check.same("the factor 9999", 9, () -> x.cell(1, 0, 0, 1));
        Edges.error("10000", RANGE, CURVE + "|10000;");
        Edges.error("10000 behind another", RANGE, CURVE + "1+2*|10000;");
        Edges.error("10000 inside 4 parentheses", RANGE, CURVE + "((((|10000))));");
        for (String factor : new String[] {"tone", "x", "y", "plate", "7", "(7)"}) {
            Edges.taken("a factor", 1, CURVE + factor + ";");
        }
        for (String other : new String[] {"k", "curve", "ink", "tones", "xy", "xx", "to", "a"}) {
            Edges.error("no factor", SYNTAX, CURVE + "|" + other + ";");
        }
    }

    /** sum = term { ( "+" | "-" ) term }, term = factor { ( "*" | "/" ) factor } */
    private static void leastAndMostOfASum() {
        Edges.error("no term", SYNTAX, CURVE + "|;");
        Edges.error("no term ahead", SYNTAX, CURVE + "|+1;");
        Edges.error("a sign ahead", SYNTAX, CURVE + "|-1;");
        Edges.error("no factor ahead", SYNTAX, CURVE + "|*1;");
        for (char operation : new char[] {'+', '-', '*', '/'}) {
            Edges.taken("two", 1, CURVE + "1" + operation + "1;");
            Edges.error("no second one", SYNTAX, CURVE + "1" + operation + "|;");
            Edges.error("two operations", SYNTAX, CURVE + "1" + operation + "|+1;");
            Edges.error("no second one at the end", SYNTAX, CURVE + "1" + operation + "|");
            Edges.error("no second one inside", SYNTAX, CURVE + "(1" + operation + "|);");
            String all = CURVE + "1" + ("" + operation + "1").repeat((599 - CURVE.length() - 1) / 2);
            Edges.taken("as many as go into the buffer", 1, all + ";");
        }
        Edges.error("two factors", SYNTAX, CURVE + "1 |1;");
        Edges.error("nothing inside", SYNTAX, CURVE + "(|);");
    }

    /** "Parentheses nest at most 4 deep." and "an opening parenthesis inside 4 others" */
    private static void parentheses() {
        Edges.taken("4 deep", 1, CURVE + "((((1))));");
        Edges.error("5 deep", DEEP, CURVE + "((((|(1)))));");
        Edges.error("5 deep behind a sum", DEEP, CURVE + "1+(2*(3-(4/(5+|(6)))));");
        Edges.error("6 deep", DEEP, CURVE + "((((|((1))))));");
        Edges.error("5 deep behind closed ones", DEEP, CURVE + "((((1))))+((((2))))-(((3+(4*|(5)))));");
        Edges.taken("4 deep many times", 1, CURVE + "((((1))))+((((2))))*((((3)+(4))+(5))+(6));");
        Edges.taken("side by side", 1, CURVE + "(1)" + "+(1)".repeat(120) + ";");
        Edges.error("one is not closed", SYNTAX, CURVE + "((((1)))|;");
        Edges.error("one is not closed at the end", SYNTAX, CURVE + "((((1)))|");
        Edges.error("one is not opened", SYNTAX, CURVE + "((((1))))|);");
        Edges.error("one is not opened, without any", SYNTAX, CURVE + "1|);");
    }

    /** "Each run is as long as possible." */
    private static void runsAreAsLongAsPossible() {
        Edges.error("one number, not two", SYNTAX, "picture 12|;");
        Edges.error("one line, not two", RANGE, "picture 4 2;tones |11112222;");
        Edges.error("one word, not two", SYNTAX, "picture 4 2;|platek 1 0 line;");
        Edges.error("one word, not a shape and curve", SYNTAX, "picture 4 2;plate k 1 0 |linecurve 1;");
        Edges.error("one word, not curve and tone", SYNTAX, "picture 4 2;plate k 1 0 line |curvetone;");
        Edges.error("one name, not six letters and one", RANGE, "picture 4 2;plate |abcdefg1 0 line;");
        Edges.error("a part of a word", SYNTAX, "|pictur 4 2;");
        Edges.error("a part of a statement", SYNTAX, "picture 4 2;|limi 4;");
        Edges.error("a part of a shape", SYNTAX, "picture 4 2;plate k 1 0 |lin;");
    }

    /** "Spaces (byte 32) may precede any token and may follow the last one" */
    private static void spaces() {
        String close = "picture4 1;tones1111;plate k1 0line curve(tone+1)*2/x-y;ink k5;limit2;";
        String[] tokens = {"picture", "4", "1", ";", "tones", "1111", ";", "plate", "k", "1", "0", "line", "curve",
            "(", "tone", "+", "1", ")", "*", "2", "/", "x", "-", "y", ";", "ink", "k", "5", ";", "limit", "2", ";"};
        long due = Edges.taken("as few spaces as can be", 1, close).checksum();
        for (String gap : new String[] {" ", "   ", " ".repeat(12)}) {
            TonePlates x = Edges.taken("spaces ahead of each token and behind the last", 1,
                    gap + String.join(gap, tokens) + gap);
            Check.same("the same data", due, x::checksum);
        }
        Edges.taken("a space ahead", 0, " picture 4 1;");
        Edges.taken("a space behind", 0, "picture 4 1; ");
        Edges.error("they are needed between two words", SYNTAX, "picture4 1;|platek1 0line;");
        Edges.error("they are needed between two numbers", SYNTAX, "picture11|;");
        Edges.error("they are needed between two lines", RANGE, "picture1 2;tones|11;");
    }

    /** "No other byte separates tokens." */
    private static void noOtherByteSeparates() {
        for (int odd = 0; odd < 256; odd++) {
            boolean isRun = odd >= '0' && odd <= '9' || odd >= 'a' && odd <= 'z';
            if (odd == ' ' || isRun || odd == ';' || odd == '|') {
                continue;
            }
            char sign = (char) odd;
            Edges.error("byte " + odd + " between words", SYNTAX, "picture 4 2;plate|" + sign + "k 1 0 line;");
            Edges.error("byte " + odd + " between numbers", SYNTAX, "picture 4|" + sign + "2;");
            Edges.error("byte " + odd + " ahead", SYNTAX, "|" + sign + "picture 4 2;");
            Edges.error("byte " + odd + " behind", SYNTAX, "picture 4 2;|" + sign);
        }
        Edges.error("\";\" between numbers", SYNTAX, "picture 4|;2;");
        TonePlates bar = new TonePlates();
        Check.same("the byte 124", SYNTAX, () -> Check.load(bar, "picture 4|2;"));
        Check.same("its offset", 9, bar::errorOffset);
    }

    /** "a run of decimal digits" and "a run of the letters a to z" */
    private static void bytesBesideLettersAndDigits() {
        Edges.taken("the letters a and z", 2, "picture 4 2;plate az 1 0 line;plate za 1 0 line;");
        TonePlates x = Edges.taken("the digits 0 and 9", 0, "picture 2 1;tones 09;");
        Check.same("0 and 9", "0 99", () -> Edges.row(2, i -> x.tone(i, 0)));
        Edges.error("` is before a", SYNTAX, "picture 4 2;plate k|` 1 0 line;");
        Edges.error("{ is behind z", SYNTAX, "picture 4 2;plate k|{ 1 0 line;");
        Edges.error("/ is before 0", SYNTAX, "picture 2 1;tones 11|/;");
        Edges.error(": is behind 9", SYNTAX, "picture 2 1;tones 11|:;");
        Edges.error("A is no letter", SYNTAX, "picture 4 2;plate |A 1 0 line;");
        Edges.error("Z ends a word", SYNTAX, "picture 4 2;plate k|Z 1 0 line;");
        Edges.error("bytes over 127 are no letters", SYNTAX, "picture 4 2;plate k|\u00e1 1 0 line;");
        Edges.error("bytes over 127 are no digits", SYNTAX, "picture 4|\u00b2 2;");
    }

    /** "the end of the text, at its length, if the text ends too early" */
    private static void theEndOfTheText() {
        String whole = "picture 4 1;tones 1111;plate k 1 0 line curve(x+1)*2;ink k 5;limit 2;";
        Edges.taken("the whole text", 1, whole);
        for (int end = 0; end < whole.length(); end++) {
            String part = whole.substring(0, end);
            boolean isWhole = end > 0 && part.charAt(end - 1) == ';';
            boolean isOpen = end == 0 || isBeside(whole.charAt(end - 1)) || isBeside(whole.charAt(end));
            if (isWhole) {
                Edges.taken("it may end here", part.contains("plate") ? 1 : 0, part);
                Edges.taken("it may end with spaces here", part.contains("plate") ? 1 : 0, part + "  ");
            } else if (isOpen) {
                Edges.error("it ends too early", SYNTAX, part + "|");
                Edges.error("it ends too early, with spaces", SYNTAX, part + "  |");
            }
        }
        Edges.error("it ends with a space behind a line", SYNTAX, "picture 4 2;tones 1111 |");
        Edges.error("it ends behind all lines", SYNTAX, "picture 4 2;tones 1111 1111 |");
    }

    /** Whether a run ends at this byte. */
    private static boolean isBeside(char sign) {
        return " ;()+*".indexOf(sign) >= 0;
    }

    /** "The first error in the text is the one with the smallest offset." */
    private static void theSmallestOffsetCounts() {
        Edges.error("a number ahead of a byte", RANGE, "picture |17 !;");
        Edges.error("a byte ahead of a number", SYNTAX, "picture |! 17;");
        Edges.error("the width ahead of the height", RANGE, "picture |17 13;");
        Edges.error("a line ahead of the end", RANGE, "picture 4 2;tones |111");
        Edges.error("a line ahead of a \";\" too early", RANGE, "picture 4 2;tones |111;");
        Edges.error("a \";\" too early ahead of a name", SYNTAX, "picture 4 2;tones 1111|;ink k 4;");
        Edges.error("a name ahead of a number", NAME, "picture 4 2;ink |k 100000;");
        Edges.error("a long name ahead of numbers", RANGE, "picture 4 2;plate |abcdefg 4 4 oval;");
        Edges.error("a known name ahead of numbers", NAME, "picture 4 2;plate k 1 0 line;plate |k 4 4 oval;");
        Edges.error("b ahead of a shape", RANGE, "picture 4 2;plate k 0 |0 oval;");
        Edges.error("a shape ahead of a curve", SYNTAX, "picture 4 2;plate k 1 0 |oval curve 10000;");
        Edges.error("a 5th plate ahead of its name", MANY, FOUR + "|plate a 1 0 line;");
        Edges.error("a 5th plate ahead of a long name", MANY, FOUR + "|plate abcdefg 1 0 line;");
        Edges.error("a 5th plate ahead of a byte", MANY, FOUR + "|plate!");
        Edges.error("a 5th plate ahead of the end", MANY, FOUR + "|plate");
        Edges.error("a name ahead of a 5th plate", NAME, FOUR + "ink |e 4;plate e 1 0 line;");
        Edges.error("a number ahead of a 5th plate", RANGE, FOUR + "limit |5;plate e 1 0 line;");
        Edges.error("a second limit ahead of its number", SYNTAX, "picture 4 2;limit 4;|limit 5;");
        Edges.error("a second limit ahead of the end", SYNTAX, "picture 4 2;limit 4;|limit");
        Edges.error("second tones ahead of their lines", SYNTAX, "picture 1 1;tones 1;|tones 11 1;");
        Edges.error("a number ahead of a second limit", RANGE, "picture 4 2;limit |0;limit 4;");
        Edges.error("a deep one ahead of the end", DEEP, CURVE + "((((|(");
        Edges.error("a deep one ahead of a number", DEEP, CURVE + "((((|(10000");
        Edges.error("a number ahead of a deep one", RANGE, CURVE + "((|10000+(((1)))));");
        Edges.error("a byte ahead of a deep one", SYNTAX, CURVE + "((|!(((1)))));");
        Edges.error("a deep one ahead of a 5th plate", DEEP, "picture 4 2;plate a 1 0 line;plate b 1 0 line;"
                + "plate c 1 0 line;plate d 1 0 line curve ((((|(1)))));plate e 1 0 line;");
    }

    /** "If several kinds of error have the same offset, the first one in this list counts" */
    private static void kindsAtTheSameOffset() {
        Edges.error("a line too many, with other digits", SYNTAX, "picture 4 1;tones 1111 |111;");
        Edges.error("a line too many, with very many digits", SYNTAX, "picture 4 1;tones 1111 |11111;");
        Edges.error("a number too great that is none", SYNTAX, "picture 4 1;limit 4 |99;");
        Edges.error("a long word where a shape is due", SYNTAX, "picture 4 2;plate k 1 0 |abcdefg;");
        Edges.error("a known name where a number is due", SYNTAX, "picture 4 2;plate k 1 0 line;plate c |k 0 line;");
        Edges.error("a long name that no plate has", RANGE, "picture 4 2;plate k 1 0 line;ink |kkkkkkk 4;");
        Edges.error("a 5th plate where a \";\" is due", SYNTAX,
                FOUR.substring(0, FOUR.length() - 1) + " |plate e 1 0 line;");
        Edges.error("a 5th plate where a number is due", SYNTAX, FOUR + "limit |plate e 1 0 line;");
        Edges.error("a 5th plate where a name of ink is due", NAME, FOUR + "ink |plate 4;");
        Edges.error("a deep parenthesis where none may be", SYNTAX, CURVE + "((((1|(1)))));");
        Edges.error("a deep parenthesis behind a closed one", SYNTAX, CURVE + "((((1)|(1))));");
    }
}
