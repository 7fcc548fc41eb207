import java.math.BigInteger;
import java.util.ArrayList;
import java.util.List;

/** The edges that the document's words on changes and promises 28 and 29 name. */
public final class UndoEdgesTest {
    public static void main(String[] args) {
        nothingToUndo();
        eightChangesCanBeUndone();
        theNinthMakesTheFirstFinal();
        undoneChangesDoNotMakeFinal();
        whatIsFinalStaysFinal();
        veryManyChanges();
        eachKindOfChange();
        changesThatLeaveAllAsItWas();
        refusedCallsAreNoChanges();
        askingIsNoChange();
        errorsOfLoadAreNoChanges();
        loadsCanBeUndone();
        bufferAndOffsetStay();
        undoIsNoChange();
        theChecksumWrapsAround();
        theOrderOfTheChecksum();
        Check.end("UndoEdgesTest");
    }

    private static void paint(TonePlates x, int tone) {
        x.paint(0, 0, 1, 1, tone);
    }

    /** Undoes all that can be undone, and tells what undo answered. */
    private static String undone(TonePlates x) {
        StringBuilder all = new StringBuilder();
        int left = 0;
        for (int i = 0; i < 12 && left >= 0; i++) {
            left = x.undo();
            all.append(i > 0 ? " " : "").append(left);
        }
        return all.toString();
    }

    /** "-1 if there was none to undo, and nothing changes then" */
    private static void nothingToUndo() {
        TonePlates x = new TonePlates();
        long before = x.checksum();
        Check.same("P28: of a new object", -1, x::undo);
        Check.same("P28: again", -1, x::undo);
        Check.same("P28: nothing changes", before, x::checksum);
        paint(x, 7);
        Check.same("P28: one change", 0, x::undo);
        Check.same("P28: none any more", -1, x::undo);
        Check.same("P28: nothing changes then", before, x::checksum);
        Check.put(x, "picture 3 2;");
        Check.same("P28: bytes are no change", -1, x::undo);
        Check.same("P28: the bytes stay", 0, () -> x.load(12));
    }

    /** "The latest 8 changes can be undone, the latest one first" */
    private static void eightChangesCanBeUndone() {
        TonePlates x = new TonePlates();
        for (int i = 1; i <= 8; i++) {
            paint(x, i);
        }
        for (int i = 7; i >= 0; i--) {
            int left = i;
            Check.same("P28: that can still be undone", left, x::undo);
            Check.same("P28: as it was before", left, () -> x.tone(0, 0));
        }
        Check.same("P28: no ninth", -1, x::undo);
        Check.same("P28: as at first", 0, () -> x.tone(0, 0));
    }

    /** "a change is final as soon as 8 later ones, none of them undone, have been made" */
    private static void theNinthMakesTheFirstFinal() {
        TonePlates x = new TonePlates();
        for (int i = 1; i <= 9; i++) {
            paint(x, i);
        }
        Check.same("P28: eight of nine", "7 6 5 4 3 2 1 0 -1", () -> undone(x));
        Check.same("P28: the first is final", 1, () -> x.tone(0, 0));
    }

    /** "8 later ones, none of them undone" */
    private static void undoneChangesDoNotMakeFinal() {
        TonePlates x = new TonePlates();
        for (int i = 1; i <= 8; i++) {
            paint(x, i);
        }
        Check.same("P28: the 8th is undone", 7, x::undo);
        paint(x, 9);
        Check.same("P28: the first is not final", "7 6 5 4 3 2 1 0 -1", () -> undone(x));
        Check.same("P28: as at first", 0, () -> x.tone(0, 0));
        TonePlates y = new TonePlates();
        for (int i = 1; i <= 20; i++) {
            paint(y, i);
            Check.same("P28: each is undone", 0, y::undo);
        }
        Check.same("P28: none is left", -1, y::undo);
        TonePlates z = new TonePlates();
        for (int i = 1; i <= 5; i++) {
            paint(z, i);
        }
        z.undo();
        z.undo();
        for (int i = 6; i <= 11; i++) {
            paint(z, i);
        }
        Check.same("P28: 3 and 6 are nine", "7 6 5 4 3 2 1 0 -1", () -> undone(z));
        Check.same("P28: only the first is final", 1, () -> z.tone(0, 0));
    }

    private static void whatIsFinalStaysFinal() {
        TonePlates x = new TonePlates();
        for (int i = 1; i <= 10; i++) {
            paint(x, i);
        }
        Check.same("P28: eight of ten", "7 6 5 4 3 2 1 0 -1", () -> undone(x));
        Check.same("P28: two are final", 2, () -> x.tone(0, 0));
        paint(x, 50);
        paint(x, 51);
        Check.same("P28: two later ones", "1 0 -1", () -> undone(x));
        Check.same("P28: two are still final", 2, () -> x.tone(0, 0));
    }

    private static void veryManyChanges() {
        TonePlates x = new TonePlates();
        for (int i = 1; i <= 100; i++) {
            paint(x, i);
        }
        for (int i = 0; i < 3; i++) {
            x.undo();
        }
        for (int i = 1; i <= 30; i++) {
            paint(x, i);
            paint(x, 40 + i);
            x.undo();
        }
        Check.same("P28: eight of very many", "6 5 4 3 2 1 0 -1", () -> undone(x));
        Check.same("P28: the latest that is final", 23, () -> x.tone(0, 0));
    }

    /** "The changing methods are load (when it succeeds), paint, turn, shape, shift, limit, clean, ..." */
    private static Edges.CallOn[] changes() {
        return new Edges.CallOn[] {
            x -> Check.load(x, "picture 16 12;plate z 3 3 square;limit 2;"), x -> x.paint(0, 0, 4, 3, 44),
            x -> x.turn(0, 2, 1), x -> x.shape(1, 0), x -> x.shift(0, 3, 5), x -> x.limit(2), x -> x.clean(0),
            x -> x.dirty(0), x -> x.fill(1, 77), x -> x.press(3)
        };
    }

    private static void eachKindOfChange() {
        String before = Edges.whole(Edges.busy());
        for (int i = 0; i < changes().length; i++) {
            TonePlates x = Edges.busy();
            long sum = x.checksum();
            changes()[i].run(x);
            Check.same("kind " + i + " changes something", false, () -> x.checksum() == sum);
            Check.same("kind " + i + " is the sixth change", 5, x::undo);
            Check.same("kind " + i + " is undone", sum, x::checksum);
            Check.same("all before kind " + i, before, () -> Edges.whole(x));
        }
    }

    /** "each such call that does not throw an exception is a change, also if all data stay as they were" */
    private static void changesThatLeaveAllAsItWas() {
        String text = "picture 4 3;tones 1111 1111 1111;plate k 1 0 line;ink k 99999;";
        Edges.CallOn[] calls = {
            x -> Check.load(x, text), x -> x.paint(0, 0, 4, 3, 11), x -> x.turn(0, 1, 0), x -> x.shape(0, 1),
            x -> x.shift(0, 0, 0), x -> x.limit(4), x -> x.clean(0), x -> x.dirty(0), x -> x.fill(0, 1)
        };
        for (int i = 0; i < calls.length; i++) {
            TonePlates x = Check.loaded(text);
            long sum = x.checksum();
            calls[i].run(x);
            Check.same("kind " + i + " leaves all", sum, x::checksum);
            Check.same("kind " + i + " is a change", 1, x::undo);
            Check.same("kind " + i + " undone leaves all", sum, x::checksum);
        }
        TonePlates dry = Check.loaded("picture 4 3;tones 1111 1111 1111;plate k 1 0 line;ink k 11;");
        Check.same("a press of no copy", 0, () -> dry.press(1));
        Check.same("is a change", 1, dry::undo);
    }

    /** "each such call that does not throw an exception is a change" */
    private static void refusedCallsAreNoChanges() {
        Edges.CallOn[] calls = {
            x -> x.load(1), x -> x.paint(0, 0, 0, 1, 1), x -> x.turn(0, 0, 0), x -> x.shape(0, 4), x -> x.shift(0, 18, 0),
            x -> x.limit(0), x -> x.clean(1), x -> x.dirty(1), x -> x.fill(0, 0), x -> x.press(0), x -> x.press(1)
        };
        TonePlates x = Check.loaded("picture 4 3;plate k 1 0 line;");
        long sum = x.checksum();
        paint(x, 0);
        for (int i = 0; i < 3 * calls.length; i++) {
            Edges.CallOn call = calls[i % calls.length];
            Check.same("refused call " + i, true, () -> Check.answerOf(() -> call.run(x)).toString().contains("throws"));
        }
        Check.same("P28: only load and paint", "1 0 -1", () -> {
            String first = x.undo() + " ";
            Check.same("P28: as before paint", sum, x::checksum);
            return first + undone(x);
        });
    }

    private static void askingIsNoChange() {
        TonePlates x = Edges.busy();
        String before = Edges.whole(Edges.busy());
        for (int i = 0; i < 5; i++) {
            int what = i;
            Edges.CallOn[] calls = {
                o -> o.errorOffset(), o -> o.state(what), o -> o.find(0), o -> o.plate(0, what), o -> o.cell(1, 0, 0, what),
                o -> o.tone(0, 0), o -> o.inks(0, 0), o -> o.why(0, 0, 0), o -> o.off(0, 0), o -> o.covered(0),
                o -> o.moire(0, 1), o -> o.worst(true), o -> o.bestTurn(0), o -> o.copies(), o -> o.cellsWith(what),
                o -> o.checksum()
            };
            for (Edges.CallOn call : calls) {
                Object first = Check.answerOf(() -> call.run(x));
                Check.same("the same answer again", first, () -> call.run(x));
            }
        }
        Check.same("all is as before", before, () -> Edges.whole(x));
    }

    /** "load (when it succeeds)" */
    private static void errorsOfLoadAreNoChanges() {
        String[] texts = {"", "picture 0 1;", "picture 2 2;ink k 1;", "picture 2 2;plate z 1 0 line;!",
            "picture 2 2;plate z 1 0 line curve (((((1)))));"};
        TonePlates x = new TonePlates();
        for (int i = 1; i <= 9; i++) {
            paint(x, i);
            Check.same("an error", true, () -> Check.load(x, texts[x.tone(0, 0) % texts.length]) < 0);
        }
        Check.same("P28: the errors do not count", "7 6 5 4 3 2 1 0 -1", () -> undone(x));
        Check.same("P28: one paint is final", 1, () -> x.tone(0, 0));
    }

    private static void loadsCanBeUndone() {
        TonePlates x = new TonePlates();
        for (int i = 1; i <= 10; i++) {
            String plates = i % 2 == 0 ? "" : "plate k " + i % 4 + " 1 line curve tone*" + i + ";";
            Check.load(x, "picture " + i + " " + (11 - i) + ";" + plates + "limit " + (i % 4 + 1) + ";");
        }
        for (int i = 9; i >= 2; i--) {
            int at = i;
            Check.same("P28: loads left", at - 2, x::undo);
            Check.same("P28: width", at, () -> x.state(0));
            Check.same("P28: height", 11 - at, () -> x.state(1));
            Check.same("P28: plates", at % 2, () -> x.state(2));
            Check.same("P28: limit", at % 4 + 1, () -> x.state(3));
        }
        Check.same("P28: two loads are final", -1, x::undo);
        TonePlates y = Check.loaded("picture 2 1;tones 99;plate a 1 0 line curve tone/9;plate b 1 0 line curve 7;");
        Check.load(y, "picture 2 1;tones 99;plate b 1 0 line;plate a 1 0 line;");
        y.undo();
        Check.same("P28: its curves", "11 7", () -> Edges.row(2, i -> y.cell(i, 1, 0, 1)));
        Check.put(y, "b");
        Check.same("P28: its names", 1, () -> y.find(1));
        Check.same("P28: back to a new object", 0, y::undo);
        Check.same("P28: 8 by 8 without plates", "8 8 0 4 0 64 0 0 0", () -> Edges.row(9, y::state));
    }

    /** "The input buffer and the error offset are not affected." */
    private static void bufferAndOffsetStay() {
        TonePlates x = new TonePlates();
        Check.load(x, "picture 3 2;plate k 1 0 line;");
        Check.put(x, "k");
        x.limit(1);
        Check.same("P28: undo", 1, x::undo);
        Check.same("P28: the bytes stay", 0, () -> x.find(1));
        Check.same("P28: all 20", -1, () -> x.find(20));
        Check.fails("P28: no more than 20", Edges.ARGUMENT, () -> x.find(21));
        Check.same("P28: the offset -1", -1, x::errorOffset);
        Check.same("P28: an error", TonePlates.SYNTAX_ERROR, () -> x.load(20));
        Check.same("P28: undo of the load before", 0, x::undo);
        Check.same("P28: the offset stays", 0, x::errorOffset);
        Check.fails("P28: no byte comes back", Edges.ARGUMENT, () -> x.find(1));
        Check.load(x, "picture 17 2;");
        Check.load(x, "picture 7 2;");
        Check.same("P28: undo of a load without an error", 0, x::undo);
        Check.same("P28: the offset is still -1", -1, x::errorOffset);
    }

    private static void undoIsNoChange() {
        TonePlates x = new TonePlates();
        paint(x, 1);
        paint(x, 2);
        paint(x, 3);
        Check.same("P28: the third", 2, x::undo);
        Check.same("P28: the second", 1, x::undo);
        Check.same("P28: the tone", 1, () -> x.tone(0, 0));
        paint(x, 4);
        Check.same("P28: the fourth", 1, x::undo);
        Check.same("P28: the tone again", 1, () -> x.tone(0, 0));
        Check.same("P28: the first", 0, x::undo);
    }

    /** The numbers that the document lists, from what the other methods tell. */
    private static List<Integer> numbers(TonePlates x) {
        List<Integer> all = new ArrayList<>();
        for (int what = 0; what <= 8; what++) {
            all.add(x.state(what));
        }
        int width = all.get(0);
        for (int plate = 0; plate < all.get(2); plate++) {
            for (int what = 0; what <= 10; what++) {
                all.add(x.plate(plate, what));
            }
        }
        int cells = width * all.get(1);
        for (int i = 0; i < cells; i++) {
            all.add(x.tone(i % width, i / width));
            all.add(x.inks(i % width, i / width));
        }
        return all;
    }

    private static long sumOf(List<Integer> numbers) {
        BigInteger sum = BigInteger.ZERO;
        for (int number : numbers) {
            sum = sum.multiply(BigInteger.valueOf(31)).add(BigInteger.valueOf(number));
        }
        return sum.longValue();
    }

    /** "wrapping around on overflow of a long" */
    private static void theChecksumWrapsAround() {
        String row = " 9876543210987654";
        TonePlates x = Check.loaded("picture 16 12;tones" + row.repeat(12) + ";plate a 3 3 round;plate b 1 0 line;"
                + "plate c 2 1 square;plate d 1 1 diamond;limit 3;ink d 99999;");
        Check.same("P29: the greatest picture", sumOf(numbers(x)), x::checksum);
        TonePlates y = new TonePlates();
        Check.same("P29: a new object", sumOf(numbers(y)), y::checksum);
        TonePlates small = Check.loaded("picture 1 1;");
        long due = 0;
        for (int n : new int[] {1, 1, 0, 4, 0, 1, 0, 0, 0, 0, 0}) {
            due = due * 31 + n;
        }
        Check.same("P29: no overflow", due, small::checksum);
    }

    /** "state(0) to state(8); for each plate ... 0 to 10; for each cell, row by row from the left, ..." */
    private static void theOrderOfTheChecksum() {
        TonePlates x = Check.loaded("picture 2 2;tones 12 34;plate a 1 0 line;plate b 1 0 line curve tone-22;ink b 7;");
        x.shift(0, 8, 9);
        List<Integer> due = List.of(2, 2, 2, 4, 6, 0, 2, 110, 0,
                1, 0, 1, 1, 8, 9, 1000, 4, 0, 4, 110,
                1, 0, 1, 1, 0, 0, 7, 2, 0, 4, 33,
                11, 1, 22, 1, 33, 3, 44, 3);
        Check.same("P29: the numbers", due, () -> numbers(x));
        Check.same("P29: the checksum", sumOf(due), x::checksum);
        x.limit(1);
        Check.same("P29: right after a change", sumOf(numbers(x)), x::checksum);
        x.undo();
        Check.same("P29: right after undo", sumOf(due), x::checksum);
    }
}
