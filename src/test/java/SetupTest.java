/** Promises 3 and 4: load, errorOffset; the grammar of the setup text and its errors. */
public final class SetupTest {
    private static final int SYNTAX = TonePlates.SYNTAX_ERROR;
    private static final int RANGE = TonePlates.OUT_OF_RANGE;
    private static final int NAME = TonePlates.NAME_ERROR;
    private static final int MANY = TonePlates.TOO_MANY;
    private static final int DEEP = TonePlates.TOO_DEEP;

    public static void main(String[] args) {
        lengthsOfLoad();
        replacesAllData();
        leavesNothingOfEarlierData();
        anErrorChangesNothing();
        errorOffsets();
        tokens();
        goodTexts();
        pictureErrors();
        tonesErrors();
        plateErrors();
        inkAndLimitErrors();
        curveErrors();
        longTexts();
        Check.end("SetupTest");
    }

    /** Where the mark | stands the error is due; it is no byte of the text. */
    private static void error(int code, String marked) {
        TonePlates x = new TonePlates();
        int offset = marked.indexOf('|');
        Check.same("\"" + marked + "\"", code, () -> Check.load(x, marked.replace("|", "")));
        Check.same("errorOffset of \"" + marked + "\"", offset, x::errorOffset);
        Check.same("the width stays, \"" + marked + "\"", 8, () -> x.state(0));
        Check.same("no change, \"" + marked + "\"", -1, x::undo);
    }

    private static void good(int plates, String text) {
        TonePlates x = new TonePlates();
        Check.same("\"" + text + "\"", plates, () -> Check.load(x, text));
        Check.same("errorOffset of \"" + text + "\"", -1, x::errorOffset);
        Check.same("plates of \"" + text + "\"", plates, () -> x.state(2));
        Check.same("a change, \"" + text + "\"", 0, x::undo);
    }

    private static void lengthsOfLoad() {
        TonePlates x = new TonePlates();
        Check.fails("load(1), empty", IllegalArgumentException.class, () -> x.load(1));
        Check.fails("load(-1), empty", IllegalArgumentException.class, () -> x.load(-1));
        Check.put(x, "picture 3 2;plate k 1 0 line;");
        Check.fails("load(41)", IllegalArgumentException.class, () -> x.load(41));
        Check.fails("load(-1)", IllegalArgumentException.class, () -> x.load(-1));
        Check.fails("load(MAX)", IllegalArgumentException.class, () -> x.load(Integer.MAX_VALUE));
        Check.fails("load(MIN)", IllegalArgumentException.class, () -> x.load(Integer.MIN_VALUE));
        Check.same("load(12): the buffer was unchanged", 0, () -> x.load(12));
        Check.same("the width", 3, () -> x.state(0));
        Check.fails("load(1): all bytes are gone", IllegalArgumentException.class, () -> x.load(1));
        Check.same("append", 20, () -> x.append(0, 0, 0, 0, 0));
        Check.same("load(20)", SYNTAX, () -> x.load(20));
        Check.fails("load(1): gone after an error too", IllegalArgumentException.class, () -> x.load(1));
        Check.same("load(0)", SYNTAX, () -> x.load(0));
        Check.same("its offset", 0, x::errorOffset);
    }

    private static void replacesAllData() {
        TonePlates x = Check.loaded("picture 4 4;tones 5555 5555 5555 5555;plate k 1 1 line;plate c 1 1 round;"
                + "ink k 7;limit 1;");
        x.clean(0);
        x.shift(0, 3, 4);
        x.fill(1, 50);
        Check.same("load", 1, () -> Check.load(x, "picture 5 3;plate k 2 0 square;"));
        int[] state = {5, 3, 1, 4, 0, 15, 0, 0, 0};
        int[] plate = {2, 0, 4, 3, 0, 0, 1000, 0, 0, 0, 0};
        for (int i = 0; i < state.length; i++) {
            int what = i;
            Check.same("state " + i, state[i], () -> x.state(what));
        }
        for (int i = 0; i < plate.length; i++) {
            int what = i;
            Check.same("plate " + i, plate[i], () -> x.plate(0, what));
        }
        Check.same("the curve is gone", 1, () -> Check.load(x, "picture 2 1;tones 55;plate k 1 0 line curve 7;"));
        Check.same("tones with the curve", 14, () -> x.plate(0, 10));
        Check.same("the same without", 1, () -> Check.load(x, "picture 2 1;tones 55;plate k 1 0 line;"));
        Check.same("tones without a curve", 110, () -> x.plate(0, 10));
        Check.same("tones and limit again", 0, () -> Check.load(x, "picture 1 1;tones 1;limit 2;"));
        Check.same("tones and limit once more", 0, () -> Check.load(x, "picture 1 1;limit 3;tones 1;"));
        Check.same("no plates", 0, () -> Check.load(x, "picture 16 12;"));
        Check.same("cells", 192, () -> x.state(5));
    }

    /** Whatever an object did before, a setup text gives what it gives on a new one. */
    private static void leavesNothingOfEarlierData() {
        String text = "picture 8 8;plate k 1 0 line;plate c 1 0 line;";
        long due = Check.loaded(text).checksum();
        TonePlates x = Check.loaded("picture 8 8;plate a 2 1 line curve 99;plate b 1 1 round curve 99;limit 1;"
                + "ink a 3;ink b 4;");
        x.shift(0, 7, 8);
        x.shift(1, 9, 10);
        x.paint(0, 0, 8, 8, 50);
        x.turn(0, 1, 0);
        Check.load(x, "picture 8 8;plate a 1 0 line curve tone;plate b 1 0 line curve tone;");
        for (int i = 0; i < 20; i++) {
            x.paint(0, 0, 8, 8, 0);
            x.paint(i % 8, i / 8, 1, 1, 50);
            x.clean(i % 2);
        }
        Check.same("cleaned", 20, () -> x.state(8));
        for (int i = 0; i < 12; i++) {
            Check.same("load " + i, 2, () -> Check.load(x, text));
            Check.same("checksum of load " + i, due, x::checksum);
        }
    }

    private static void anErrorChangesNothing() {
        TonePlates x = Check.loaded("picture 4 2;tones 1234 5678;plate k 1 1 line;limit 2;ink k 5;");
        x.shift(0, 1, 0);
        long before = x.checksum();
        for (String text : new String[] {"", "picture 9 9;tones", "picture 5 5;plate c 1 0 line;limit 9;",
            "picture 4 2;plate k 2 0 round curve 5;ink k 9;!"}) {
            Check.same("has an error: " + text, true, () -> Check.load(x, text) < 0);
            Check.same("checksum after " + text, before, x::checksum);
        }
        Check.same("undo", 1, x::undo);
        Check.same("undo of the load", 0, x::undo);
        Check.same("undo of nothing", -1, x::undo);
    }

    private static void errorOffsets() {
        TonePlates x = new TonePlates();
        Check.same("without a load", -1, x::errorOffset);
        Check.fails("load(1)", IllegalArgumentException.class, () -> x.load(1));
        Check.same("a load that threw", -1, x::errorOffset);
        Check.same("an error", RANGE, () -> Check.load(x, "picture 17 1;"));
        Check.same("its offset", 8, x::errorOffset);
        Check.fails("load(1)", IllegalArgumentException.class, () -> x.load(1));
        Check.same("a load that threw keeps it", 8, x::errorOffset);
        x.paint(0, 0, 1, 1, 1);
        x.undo();
        Check.same("undo keeps it", 8, x::errorOffset);
        Check.same("a good one", 0, () -> Check.load(x, "picture 1 1;"));
        Check.same("no error", -1, x::errorOffset);
        Check.same("an error again", SYNTAX, () -> Check.load(x, "picture 1 1"));
        Check.same("undo of the good one", 0, x::undo);
        Check.same("undo does not bring an offset back", 11, x::errorOffset);
    }

    private static void tokens() {
        good(1, "picture4 2;tones0123 4567;plate k1 0line;ink k5;limit2;");
        good(1, "  picture  4  2  ;  plate  k  1  0  line  curve  (  tone  +  1  )  *  2  ;  ");
        good(1, "picture 4 2;plate k1 0line curve(tone+1)*2;");
        good(0, "picture 0004 000000000000000000000000002;");
        error(SYNTAX, "picture|\t4 2;");
        error(SYNTAX, "picture 4|\n2;");
        error(SYNTAX, "picture 4 2|,");
        error(SYNTAX, "|\u0000picture 4 2;");
        error(SYNTAX, "|\u00a0picture 4 2;");
        error(SYNTAX, "picture 4 2;|\u00ff");
        error(SYNTAX, "picture 12|;");
        error(RANGE, "picture |42;");
        error(SYNTAX, "|pictures 4 2;");
        error(SYNTAX, "|Picture 4 2;");
        error(SYNTAX, "|pict ure 4 2;");
        error(SYNTAX, "picture 4 2;|platek 1 0 line;");
        error(SYNTAX, "picture 4 2;plate k 1 0 |roundcurve 1;");
        error(SYNTAX, "picture 4 2;plate k 1 0 |{");
        error(SYNTAX, "picture 4 2;plate k 1 0 |`");
        error(SYNTAX, "picture 4 2|:");
        error(SYNTAX, "picture 4 |/2;");
        error(SYNTAX, "picture |-4 2;");
    }

    private static void goodTexts() {
        good(0, "picture 1 1;");
        good(0, "picture 16 12;");
        good(0, "picture 2 2;tones 00 99;limit 4;");
        good(0, "picture 2 2;limit 1;tones 00 99;");
        good(4, "picture 2 2;plate a 0 1 round;plate b 3 3 line;plate c 1 0 diamond;plate d 0 3 square;");
        good(4, "picture 2 2;plate plate 0 1 round;plate curve 3 3 line;plate round 1 0 round;plate ink 0 3 line;"
                + "ink ink 3;ink plate 4;");
        good(1, "picture 2 2;plate curve 1 0 line curve plate;");
        good(1, "picture 2 2;plate abcdef 1 0 line;ink abcdef 0;ink abcdef 99999;ink abcdef 000000000000099999;");
        good(1, "picture 2 2;plate k 1 0 line curve ((((tone))))-(x)*((y));");
        good(1, "picture 2 2;plate k 1 0 line curve 0+9999+00000009999;");
        good(1, "picture 2 2;plate z 1 0 line;tones 11 11;ink z 1;limit 3;");
        TonePlates x = Check.loaded("picture 3 2;tones 019 876;plate z 1 0 line;ink z 1;limit 3;ink z 20;ink z 300;");
        Check.same("ink told last", 300, () -> x.plate(0, 6));
        Check.same("the limit", 3, () -> x.state(3));
        int[] tones = {0, 11, 99, 88, 77, 66};
        for (int i = 0; i < 6; i++) {
            int at = i;
            Check.same("tone " + i, tones[i], () -> x.tone(at % 3, at / 3));
        }
        String[] shapes = {"round", "line", "diamond", "square"};
        for (int i = 0; i < 4; i++) {
            TonePlates y = Check.loaded("picture 3 2;plate z 2 3 " + shapes[i] + ";");
            Check.same(shapes[i], i, () -> y.plate(0, 3));
            Check.same("a with " + shapes[i], 2, () -> y.plate(0, 0));
            Check.same("b with " + shapes[i], 3, () -> y.plate(0, 1));
        }
    }

    private static void pictureErrors() {
        error(SYNTAX, "|");
        error(SYNTAX, "   |");
        error(SYNTAX, "|;");
        error(SYNTAX, "|tones 1;");
        error(SYNTAX, "picture|");
        error(SYNTAX, "picture  |");
        error(SYNTAX, "picture 4|");
        error(SYNTAX, "picture |x 2;");
        error(SYNTAX, "picture 4 |x;");
        error(SYNTAX, "picture 4 2|");
        error(SYNTAX, "picture 4 2   |");
        error(SYNTAX, "picture 4 2 |3;");
        error(SYNTAX, "picture 4 2;|;");
        error(SYNTAX, "picture 4 2;|picture 4 2;");
        error(SYNTAX, "picture 4 2;|4;");
        error(RANGE, "picture |0 2;");
        error(RANGE, "picture |17 2;");
        error(RANGE, "picture |000017 0;");
        error(RANGE, "picture 16 |0;");
        error(RANGE, "picture 16 |13");
        error(RANGE, "picture |4294967300 2;");
        error(RANGE, "picture |18446744073709551620 2;");
        error(RANGE, "picture 4 |100000000000000000000000000000000000000000000000000000000000000000002;");
        error(RANGE, "picture |17!");
    }

    private static void tonesErrors() {
        error(SYNTAX, "picture 4 2;tones|");
        error(SYNTAX, "picture 4 2;tones|;");
        error(SYNTAX, "picture 4 2;tones 1111|;");
        error(SYNTAX, "picture 4 2;tones 1111|");
        error(SYNTAX, "picture 4 2;tones 1111 |limit 1;");
        error(SYNTAX, "picture 4 2;tones 1111 2222|");
        error(SYNTAX, "picture 4 2;tones 1111 2222 |3333;");
        error(SYNTAX, "picture 4 2;tones 1111 2222 |333;");
        error(SYNTAX, "picture 4 2;tones 1111 2222 |limit 1;");
        error(RANGE, "picture 4 2;tones |111 2222;");
        error(RANGE, "picture 4 2;tones 1111 |22222;");
        error(RANGE, "picture 4 2;tones |11112222;");
        error(RANGE, "picture 4 2;tones |1 ;");
        error(RANGE, "picture 4 2;tones 1111 |222!;");
        error(SYNTAX, "picture 4 1;tones 1111;|tones 1111;");
        error(SYNTAX, "picture 4 1;tones 1111;limit 1;|tones");
    }

    private static void plateErrors() {
        error(SYNTAX, "picture 4 2;plate|");
        error(SYNTAX, "picture 4 2;plate |;");
        error(SYNTAX, "picture 4 2;plate |1 0 line;");
        error(SYNTAX, "picture 4 2;plate |K 1 0 line;");
        error(SYNTAX, "picture 4 2;plate k|;");
        error(SYNTAX, "picture 4 2;plate k |line;");
        error(SYNTAX, "picture 4 2;plate k 1 |line;");
        error(SYNTAX, "picture 4 2;plate k 1 0|");
        error(SYNTAX, "picture 4 2;plate k 1 0|;");
        error(SYNTAX, "picture 4 2;plate k 1 0 |1;");
        error(SYNTAX, "picture 4 2;plate k 1 0 |oval;");
        error(SYNTAX, "picture 4 2;plate k 1 0 |curve;");
        error(SYNTAX, "picture 4 2;plate k 1 0 line|");
        error(SYNTAX, "picture 4 2;plate k 1 0 line |5;");
        error(SYNTAX, "picture 4 2;plate k 1 0 line |curves 5;");
        error(RANGE, "picture 4 2;plate k |4 0 line;");
        error(RANGE, "picture 4 2;plate k |99999999999999999999 0 line;");
        error(RANGE, "picture 4 2;plate k 1 |4 line;");
        error(RANGE, "picture 4 2;plate k 0 |0 line;");
        error(RANGE, "picture 4 2;plate k 000 |00 oval;");
        error(RANGE, "picture 4 2;plate k 0 |4 line;");
        error(RANGE, "picture 4 2;plate |abcdefg 1 0 line;");
        error(RANGE, "picture 4 2;plate |abcdefg!");
        error(NAME, "picture 4 2;plate k 1 0 line;plate |k 1 0 line;");
        error(NAME, "picture 4 2;plate k 1 0 line;plate |k");
        error(NAME, "picture 4 2;plate abcdef 1 0 line;plate c 1 0 line;plate |abcdef 5 5;");
        error(RANGE, "picture 4 2;plate abcdef 1 0 line;plate |abcdefg 1 0 line;");
        String four = "picture 2 2;plate a 1 0 line;plate b 1 0 line;plate c 1 0 line;plate d 1 0 line;";
        error(MANY, four + "|plate e 1 0 line;");
        error(MANY, four + "|plate");
        error(MANY, four + "limit 1; |plate a;");
        error(SYNTAX, four + "|plates e 1 0 line;");
        error(NAME, four + "ink |e 1;");
    }

    private static void inkAndLimitErrors() {
        String start = "picture 4 2;plate k 1 0 line;";
        error(SYNTAX, start + "ink|");
        error(SYNTAX, start + "ink |5;");
        error(SYNTAX, start + "ink k|;");
        error(SYNTAX, start + "ink k |k;");
        error(SYNTAX, start + "ink k 5|");
        error(SYNTAX, start + "ink k 5 |5;");
        error(RANGE, start + "ink k |100000;");
        error(RANGE, start + "ink k |4294967296;");
        error(RANGE, start + "ink |kkkkkkk 5;");
        error(NAME, start + "ink |c 5;plate c 1 0 line;");
        error(NAME, start + "ink |kk 5;");
        error(NAME, "picture 4 2;ink |k 5;" + start);
        error(SYNTAX, start + "limit|");
        error(SYNTAX, start + "limit|;");
        error(SYNTAX, start + "limit |k;");
        error(SYNTAX, start + "limit 1|");
        error(RANGE, start + "limit |0;");
        error(RANGE, start + "limit |5;");
        error(SYNTAX, start + "limit 1;|limit 1;");
        error(SYNTAX, start + "limit 1;ink k 1;|limit");
    }

    private static void curveErrors() {
        String start = "picture 4 2;plate k 1 0 line curve ";
        for (String after : new String[] {"|", "|;", "|)", "|-5;", "|*5;", "|curve;", "|k;", "|tones;", "tone |x;",
            "tone |5;", "5 |tone;", "5 |(5);", "(5) |(5);", "(5)|5;", "5+|;", "5*|;", "5-|", "5/ |", "5+|*5;", "5*|-5;",
            "(|);", "(5|;", "(5|", "((5)|;", "5|);", "(5)|);", "tone|,", "|xy;",
            "((((5))))|);", "((((5)))|;", "5;|5;", "5 |%2;", "tone;|curve"}) {
            error(SYNTAX, start + after);
        }
        error(RANGE, start + "|10000;");
        error(RANGE, start + "tone*|99999999999999999999;");
        error(RANGE, start + "((((|10000))))");
        error(DEEP, start + "((((|(5)))));");
        error(DEEP, start + "((((|(");
        error(DEEP, start + "1+(2*(3-(4/(5+|(6)))));");
        error(SYNTAX, start + "((((5|(6)))));");
        error(SYNTAX, start + "((((5)|(5))));");
        error(DEEP, start + "((((1)))+(((2))))*((((3+ |(4)))));");
        good(1, start + "((((1)))+(((2))))*((((3+4))));");
        good(1, start + "(1)+(1)+(1)+(1)+(1)+(1)*(((2)))*(((3)));");
    }

    private static void longTexts() {
        String start = "picture 2 1;tones 55;plate k 1 0 line curve 1";
        StringBuilder sum = new StringBuilder(start);
        while (sum.length() < 597) {
            sum.append("+1");
        }
        String full = sum + " ".repeat(599 - sum.length()) + ";";
        good(1, full);
        TonePlates x = Check.loaded(full);
        Check.same("a long sum is limited to 100", 200, () -> x.plate(0, 10));
        error(SYNTAX, full.substring(0, 599) + "|");
        error(SYNTAX, full.substring(0, 599) + "+|");
        error(RANGE, "picture |" + "9".repeat(592));
        error(SYNTAX, "|" + "a".repeat(600));
        error(SYNTAX, " ".repeat(600) + "|");
        error(SYNTAX, "|" + "(".repeat(600));
        error(RANGE, "picture 4 2;plate |" + "k".repeat(580));
        error(DEEP, "picture 4 2;plate k 1 0 line curve((((|" + "(".repeat(500));
        good(0, "picture 1 1;" + " ".repeat(588));
        good(0, "picture " + "0".repeat(580) + "1 1;");
    }
}
