/** The edges that promises 1 to 4 and 6 name: an empty and a full buffer, lengths, offsets, names. */
public final class BufferEdgesTest {
    private static final int SYNTAX = TonePlates.SYNTAX_ERROR;
    private static final int RANGE = TonePlates.OUT_OF_RANGE;
    private static final int SPACES = 0x20202020;

    public static void main(String[] args) {
        aNewObjectHasAnEmptyBuffer();
        theMostSignificantByteComesFirst();
        thirtyCallsFillTheBuffer();
        aFullBufferStaysAsItIs();
        loadRefusesOtherLengths();
        loadReadsOnlyTheFirstBytes();
        loadEmptiesTheBuffer();
        anEmptyTextHasAnError();
        aWholeBufferCanBeRead();
        allDataAreReplaced();
        namesStayAfterChanges();
        theOffsetIsThatOfTheLatestLoad();
        findRefusesOtherLengths();
        findTakesTheFirstBytesOnly();
        Check.end("BufferEdgesTest");
    }

    /** "with an empty input buffer" */
    private static void aNewObjectHasAnEmptyBuffer() {
        TonePlates x = new TonePlates();
        Check.same("P1: find(0)", -1, () -> x.find(0));
        Check.fails("P1: find(1)", Edges.ARGUMENT, () -> x.find(1));
        Check.fails("P1: load(1)", Edges.ARGUMENT, () -> x.load(1));
        Check.same("P1: the first append", 20, () -> x.append(0, 0, 0, 0, 0));
    }

    /** "the 4 bytes of each argument, the most significant byte first" */
    private static void theMostSignificantByteComesFirst() {
        for (int at = 0; at < 20; at++) {
            for (int odd : new int[] {'!', 0, 127, 128, 255}) {
                TonePlates x = new TonePlates();
                int[] w = {SPACES, SPACES, SPACES, SPACES, SPACES};
                int shift = 24 - 8 * (at % 4);
                w[at / 4] = SPACES & ~(255 << shift) | odd << shift;
                x.append(w[0], w[1], w[2], w[3], w[4]);
                Check.same("P2: byte " + odd + " at " + at, SYNTAX, () -> x.load(20));
                Check.same("P2: where byte " + odd + " came", at, x::errorOffset);
            }
        }
    }

    /** "Returns the new length of the buffer; -1 if it would exceed 600 bytes" */
    private static void thirtyCallsFillTheBuffer() {
        TonePlates x = new TonePlates();
        for (int length = 20; length <= 600; length += 20) {
            Check.same("P2: the new length", length, () -> x.append(SPACES, SPACES, SPACES, SPACES, SPACES));
        }
        Check.same("P2: 620 would exceed 600", -1, () -> x.append(0, 0, 0, 0, 0));
        Check.same("P2: and again", -1, () -> x.append(0, 0, 0, 0, 0));
        x.load(600);
        Check.same("P2: the buffer can be filled anew", 20, () -> x.append(0, 0, 0, 0, 0));
    }

    /** "and the buffer is unchanged then" */
    private static void aFullBufferStaysAsItIs() {
        String first = "picture 3 2;tones 123 456;";
        String last = "plate k 1 0 line;";
        String text = first + " ".repeat(600 - first.length() - last.length()) + last;
        TonePlates x = new TonePlates();
        Check.put(x, text);
        Check.same("P2: no room", -1, () -> x.append(-1, -1, -1, -1, -1));
        Check.fails("P2: no more bytes than 600", Edges.ARGUMENT, () -> x.find(601));
        Check.same("P2: all 600 bytes are as before", 1, () -> x.load(600));
        Check.same("P2: the tones", 11 * 21, () -> x.state(7));
    }

    /** "if length is negative or greater than the length of the buffer; the buffer is unchanged then" */
    private static void loadRefusesOtherLengths() {
        for (int length : new int[] {-1, -20, 21, 600, Integer.MIN_VALUE, Integer.MAX_VALUE}) {
            Edges.refused("P3: load(" + length + ") of 20 bytes", Edges.ARGUMENT, x -> x.load(length));
        }
        TonePlates x = new TonePlates();
        Check.put(x, "picture 3 2;");
        Check.fails("P3: one byte too many", Edges.ARGUMENT, () -> x.load(21));
        Check.same("P3: the bytes are still there", 0, () -> x.load(12));
        TonePlates y = new TonePlates();
        Check.put(y, "picture 3 2;        ");
        Check.same("P3: just as many as there are", 0, () -> y.load(20));
        TonePlates full = new TonePlates();
        Check.put(full, "picture 3 2;" + " ".repeat(588));
        Check.fails("P3: 601", Edges.ARGUMENT, () -> full.load(601));
        Check.fails("P3: -1 of 600", Edges.ARGUMENT, () -> full.load(-1));
        Check.same("P3: 600", 0, () -> full.load(600));
    }

    /** "Reads the first bytes of the input buffer as a setup text" */
    private static void loadReadsOnlyTheFirstBytes() {
        TonePlates x = new TonePlates();
        Check.put(x, "picture 3 2;picture!");
        Check.same("P3: the bytes behind are not read", 0, () -> x.load(12));
        Check.put(x, "picture 13 12;limit 3;");
        Check.same("P3: a number ends with the length", SYNTAX, () -> x.load(9));
        Check.same("P3: there", 9, x::errorOffset);
        Check.put(x, "picture 13 2;limit;");
        Check.same("P3: a word ends with the length", SYNTAX, () -> x.load(16));
        Check.same("P3: it is no statement then", 13, x::errorOffset);
    }

    /** "The input buffer is empty afterwards, also if the text has an error." */
    private static void loadEmptiesTheBuffer() {
        TonePlates x = new TonePlates();
        Check.put(x, "picture 3 2;        plate k 1 0 line;");
        Check.same("P3: a text without an error", 0, () -> x.load(12));
        Check.fails("P3: no byte is left", Edges.ARGUMENT, () -> x.find(1));
        Check.same("P3: no byte at all", -1, () -> x.find(0));
        Check.put(x, "picture 3 2;        plate k 1 0 line;");
        Check.same("P3: a text with an error", SYNTAX, () -> x.load(11));
        Check.fails("P3: no byte is left either", Edges.ARGUMENT, () -> x.find(1));
        Check.same("P3: append starts anew", 20, () -> x.append(0, 0, 0, 0, 0));
    }

    /** "An empty text has a SYNTAX_ERROR." */
    private static void anEmptyTextHasAnError() {
        Edges.error("P3: an empty text", SYNTAX, "|");
        TonePlates x = new TonePlates();
        Check.put(x, "picture 3 2;");
        Check.same("P3: no byte of many", SYNTAX, () -> x.load(0));
        Check.same("P3: its offset", 0, x::errorOffset);
        Check.fails("P3: the bytes are gone", Edges.ARGUMENT, () -> x.find(1));
        Check.same("P3: the picture is as before", 8, () -> x.state(0));
    }

    /** "an input buffer of at most 600 bytes" */
    private static void aWholeBufferCanBeRead() {
        String start = "picture 3 2;";
        String last = "limit 3;";
        TonePlates x = Edges.taken("600 bytes", 0, start + " ".repeat(600 - start.length() - last.length()) + last);
        Check.same("600 bytes: the last statement", 3, () -> x.state(3));
        Edges.error("600 bytes: an error at the last one", SYNTAX, start + " ".repeat(587) + "|!");
        Edges.error("600 bytes: the end is an error", SYNTAX, start + " ".repeat(581) + "limit 3|");
    }

    /** "replaces all data by it": nothing of an earlier text, change, undone change or error is left. */
    private static void allDataAreReplaced() {
        String text = "picture 4 3;plate k 1 0 line;plate c 1 1 line;";
        Edges.CallOn[] before = {
            x -> x.limit(2), x -> x.paint(0, 0, 1, 1, 77), x -> x.clean(0), x -> x.shift(1, 17, 0), x -> x.shift(1, 0, 17),
            x -> x.fill(1, 5), x -> x.press(1), x -> x.turn(0, 1, 3), x -> x.shape(0, 2), x -> x.dirty(0)
        };
        for (int i = 0; i < before.length; i++) {
            TonePlates x = Check.loaded("picture 4 3;tones 9090 0000 0009;plate c 2 0 round curve tone;plate k 1 1 square;"
                    + "limit 1;ink k 7;");
            before[i].run(x);
            x.undo();
            Check.load(x, text);
            isAsTold(x, "undone, then load, " + i);
            TonePlates y = Check.loaded("picture 4 3;tones 9090 0000 0009;plate k 2 0 round curve tone;");
            y.clean(0);
            y.undo();
            Check.load(y, "picture 4 3;tones 9999 9999 9999;limit 1;plate k 2 0 round curve tone;plate m 1 0 line;!");
            Check.load(y, text);
            isAsTold(y, "an error, then load");
        }
        TonePlates z = Check.loaded("picture 4 3;plate k 1 0 line curve 9*tone;plate c 1 0 line;limit 2;");
        for (int i = 0; i < 12; i++) {
            z.paint(i % 4, i / 4, 1, 1, 60);
            z.clean(i % 2);
            z.shift(1, i, 17 - i);
        }
        for (int i = 0; i < 11; i++) {
            Check.load(z, text);
            isAsTold(z, "load " + i + " behind many changes");
        }
    }

    private static void isAsTold(TonePlates x, String when) {
        Check.same("P3: " + when, "4 3 2 4 0 12 0 0 0", () -> Edges.row(9, x::state));
        Check.same("P3: k, " + when, "1 0 1 1 0 0 1000 0 0 12 0", () -> Edges.row(11, i -> x.plate(0, i)));
        Check.same("P3: c, " + when, "1 1 2 1 0 0 1000 0 0 2 0", () -> Edges.row(11, i -> x.plate(1, i)));
        Check.same("P3: the ranks of c, " + when, "2 0 2 0", () -> Edges.row(4, i -> x.cell(1, i, 0, 0)));
        Check.same("P3: dots of k, " + when, 18, () -> x.paint(0, 0, 4, 3, 50));
    }

    /** "Finds a plate by its name": no change takes a name away. */
    private static void namesStayAfterChanges() {
        TonePlates x = Check.loaded("picture 3 2;plate a 1 0 line;plate ab 1 0 line;plate abc 1 0 line;plate abcd 1 0 line;");
        Check.put(x, "abcd");
        for (int i = 0; i < 12; i++) {
            x.limit(i % 4 + 1);
            Check.same("P6: after change " + i, "-1 0 1 2 3 -1", () -> Edges.row(6, x::find));
        }
    }

    /** "the latest call of load that did not throw; -1 if it found none or if there was no such call" */
    private static void theOffsetIsThatOfTheLatestLoad() {
        TonePlates x = new TonePlates();
        Check.same("P4: no call of load", -1, x::errorOffset);
        Check.fails("P4: a load that throws", Edges.ARGUMENT, () -> x.load(1));
        Check.same("P4: is no such call", -1, x::errorOffset);
        Check.same("P4: an error at 0", SYNTAX, () -> x.load(0));
        Check.same("P4: offset 0", 0, x::errorOffset);
        Check.same("P4: an error at 8", RANGE, () -> Check.load(x, "picture 17 2;"));
        Check.same("P4: offset 8", 8, x::errorOffset);
        Check.fails("P4: throws again", Edges.ARGUMENT, () -> x.load(-1));
        Check.same("P4: the offset stays", 8, x::errorOffset);
        Check.same("P4: no error", 0, () -> Check.load(x, "picture 1 2;"));
        Check.same("P4: none found", -1, x::errorOffset);
        Check.same("P4: an error at 9", SYNTAX, () -> Check.load(x, "picture 1!"));
        Check.same("P4: offset 9", 9, x::errorOffset);
    }

    /** "if length is negative or greater than the length of the buffer" */
    private static void findRefusesOtherLengths() {
        for (int length : new int[] {-1, 21, 600, 601, Integer.MIN_VALUE, Integer.MAX_VALUE}) {
            Edges.refused("P6: find(" + length + ") of 20 bytes", Edges.ARGUMENT, x -> x.find(length));
        }
        TonePlates x = Check.loaded("picture 3 2;plate k 1 0 line;");
        Check.same("P6: no byte of none", -1, () -> x.find(0));
        Check.fails("P6: one byte of none", Edges.ARGUMENT, () -> x.find(1));
        Check.put(x, "k");
        Check.same("P6: no byte of 20", -1, () -> x.find(0));
        Check.same("P6: 20 of 20", -1, () -> x.find(20));
        Check.fails("P6: 21 of 20", Edges.ARGUMENT, () -> x.find(21));
        Check.put(x, " ".repeat(580));
        Check.same("P6: 600 of 600", -1, () -> x.find(600));
        Check.fails("P6: 601 of 600", Edges.ARGUMENT, () -> x.find(601));
    }

    /** "Returns its index; -1 if no plate has this name." and "which stays as it is" */
    private static void findTakesTheFirstBytesOnly() {
        TonePlates x = Check.loaded("picture 3 2;plate a 1 0 line;plate abcdef 1 0 line;plate ab 1 0 line;"
                + "plate abc 1 0 line;");
        Check.put(x, "abcdefg");
        int[] due = {-1, 0, 2, 3, -1, -1, 1, -1, -1};
        for (int i = 0; i < 2 * due.length; i++) {
            int length = i % due.length;
            Check.same("P6: find(" + length + "), call " + i, due[length], () -> x.find(length));
        }
        Check.same("P6: the bytes go on behind them", 40, () -> x.append(0, 0, 0, 0, 0));
        TonePlates none = new TonePlates();
        Check.put(none, "a");
        Check.same("P6: without plates", -1, () -> none.find(1));
        for (String name : new String[] {"\u0000a", "a\u0000", " a", "a ", "A", "\u00e1"}) {
            x.load(0);
            Check.put(x, name);
            Check.same("P6: \"" + name + "\" is no name", -1, () -> x.find(name.length()));
        }
    }
}
