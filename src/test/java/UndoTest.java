/** Promise 28: undo, and promise 29: checksum. */
public final class UndoTest {
    public static void main(String[] args) {
        everyChangeCanBeUndone();
        onlyEight();
        undoneChangesDoNotCount();
        undoOfLoads();
        changesThatChangeNothing();
        bufferStays();
        checksums();
        Check.end("UndoTest");
    }

    private static TonePlates someDots() {
        return Check.loaded("picture 4 3;tones 4444 4444 0099;plate k 1 1 line;plate c 1 0 line;limit 1;");
    }

    private static void everyChangeCanBeUndone() {
        TonePlates x = someDots();
        Check.Call[] changes = {
            () -> x.paint(0, 0, 2, 2, 80), () -> x.turn(0, 2, 1), () -> x.shape(0, 3), () -> x.shift(0, 1, 2),
            () -> x.limit(2), () -> x.clean(1), () -> x.fill(0, 77), () -> x.press(2), () -> x.paint(0, 0, 4, 3, 1),
            () -> x.clean(0), () -> x.dirty(0), () -> x.dirty(1), () -> Check.load(x, "picture 2 2;plate z 1 0 line;")
        };
        x.turn(1, 2, 2);
        x.clean(0);
        for (int i = 0; i < changes.length; i++) {
            long before = x.checksum();
            changes[i].run();
            int left = Math.min(7, 2 + i + 1);
            Check.same("undo of change " + i, left, x::undo);
            Check.same("checksum then", before, x::checksum);
            changes[i].run();
        }
    }

    private static void onlyEight() {
        TonePlates x = new TonePlates();
        long[] sums = new long[13];
        for (int i = 0; i <= 12; i++) {
            sums[i] = x.checksum();
            int at = i;
            Check.same("paint " + i, 0, () -> x.paint(at % 8, 0, 1, 1, at + 1));
        }
        for (int i = 7; i >= 0; i--) {
            int left = i;
            Check.same("undo, " + i + " left", left, x::undo);
            Check.same("checksum, " + i + " left", sums[5 + i], x::checksum);
        }
        for (int i = 0; i < 3; i++) {
            Check.same("undo of nothing", -1, x::undo);
            Check.same("nothing changes", sums[5], x::checksum);
        }
        x.paint(0, 0, 1, 1, 99);
        Check.same("undo", 0, x::undo);
        Check.same("checksum", sums[5], x::checksum);
    }

    private static void undoneChangesDoNotCount() {
        TonePlates x = new TonePlates();
        for (int i = 1; i <= 8; i++) {
            x.paint(0, 0, 1, 1, i);
        }
        Check.same("undo 8", 7, x::undo);
        Check.same("undo 7", 6, x::undo);
        x.paint(0, 0, 1, 1, 50);
        x.paint(0, 0, 1, 1, 51);
        for (int i = 7; i >= 0; i--) {
            int left = i;
            Check.same("undo, " + i + " left", left, x::undo);
        }
        Check.same("the first one was not final", 0, () -> x.tone(0, 0));
        for (int i = 1; i <= 9; i++) {
            x.paint(0, 0, 1, 1, i);
        }
        Check.same("undo 9", 7, x::undo);
        x.paint(0, 0, 1, 1, 60);
        for (int i = 7; i >= 0; i--) {
            int left = i;
            Check.same("undo of the second run, " + i + " left", left, x::undo);
        }
        Check.same("the first one is final", 1, () -> x.tone(0, 0));
    }

    private static void undoOfLoads() {
        TonePlates x = someDots();
        long first = x.checksum();
        Check.load(x, "picture 16 12;plate k 3 3 round curve x*y;plate m 2 2 line;plate n 1 1 line;plate o 1 0 line;");
        x.paint(3, 3, 10, 5, 70);
        long second = x.checksum();
        Check.load(x, "picture 1 1;tones 9;plate q 1 0 line curve 5;");
        long third = x.checksum();
        for (String text : new String[] {"picture 0", "picture 9 9;tones", "", "picture 7 7;plate q 1 0 line;!"}) {
            Check.load(x, text);
            Check.same("checksum after an error", third, x::checksum);
        }
        Check.same("undo", 3, x::undo);
        Check.same("the second one", second, x::checksum);
        Check.put(x, "m");
        Check.same("its names", 1, () -> x.find(1));
        Check.same("its curve", 15, () -> x.cell(0, 3, 5, 1));
        x.undo();
        x.undo();
        Check.same("the first one", first, x::checksum);
        Check.same("no such name", -1, () -> x.find(1));
        Check.same("back to the start", -1, () -> x.undo() == 0 ? x.undo() : 9);
        Check.same("the first picture", 8, () -> x.state(0));
        TonePlates y = new TonePlates();
        for (int i = 1; i <= 11; i++) {
            Check.load(y, "picture " + i + " 1;plate k 1 0 line;");
            Check.load(y, "picture 16 12;plate k 1 0 line;plate c 1 0 line curve x");
        }
        for (int i = 7; i >= 0; i--) {
            int left = i;
            Check.same("undo of a load, " + i + " left", left, y::undo);
            Check.same("width, " + i + " left", 3 + left, () -> y.state(0));
        }
    }

    private static void changesThatChangeNothing() {
        TonePlates x = Check.loaded("picture 4 3;plate k 1 0 line;ink k 99999;");
        x.paint(0, 0, 1, 1, 0);
        x.turn(0, 1, 0);
        x.shape(0, 1);
        x.shift(0, 0, 0);
        x.limit(4);
        x.clean(0);
        x.dirty(0);
        Check.same("eight changes", 7, x::undo);
        x.fill(0, 1);
        x.fill(0, 1);
        Check.same("nine, and one of them undone", 7, x::undo);
        Check.fails("a call that throws", IllegalArgumentException.class, () -> x.limit(0));
        Check.same("is no change", 6, x::undo);
        TonePlates y = Check.loaded("picture 4 3;tones 1111 1111 1111;plate k 1 0 line;ink k 11;");
        Check.same("no copy", 0, () -> y.press(5));
        Check.same("is a change", 1, y::undo);
    }

    private static void bufferStays() {
        TonePlates x = Check.loaded("picture 4 3;plate k 1 0 line;");
        Check.put(x, "k");
        x.limit(1);
        Check.same("undo", 1, x::undo);
        Check.same("the bytes are there", 0, () -> x.find(1));
        Check.same("append", 40, () -> x.append(0, 0, 0, 0, 0));
        Check.same("undo of load", 0, x::undo);
        Check.same("append", 60, () -> x.append(0, 0, 0, 0, 0));
    }

    /** The checksum, from what the other methods tell. */
    private static long sumOf(TonePlates x) {
        long sum = 0;
        for (int i = 0; i <= 8; i++) {
            sum = 31 * sum + x.state(i);
        }
        for (int plate = 0; plate < x.state(2); plate++) {
            for (int i = 0; i <= 10; i++) {
                sum = 31 * sum + x.plate(plate, i);
            }
        }
        for (int y = 0; y < x.state(1); y++) {
            for (int column = 0; column < x.state(0); column++) {
                sum = 31 * (31 * sum + x.tone(column, y)) + x.inks(column, y);
            }
        }
        return sum;
    }

    private static void checksums() {
        TonePlates tiny = Check.loaded("picture 1 1;tones 3;");
        // 1 1 0 4 0 1 0 33 0, then 33 0
        long due = 0;
        for (int n : new int[] {1, 1, 0, 4, 0, 1, 0, 33, 0, 33, 0}) {
            due = due * 31 + n;
        }
        Check.same("without plates", due, tiny::checksum);
        // The rank is 4, and 400 is less than 33 * 16.
        TonePlates one = Check.loaded("picture 1 1;tones 3;plate k 0 2 square;ink k 70;");
        due = 0;
        for (int n : new int[] {1, 1, 1, 4, 1, 0, 1, 33, 0, 0, 2, 4, 3, 0, 0, 70, 1, 1, 0, 33, 33, 1}) {
            due = due * 31 + n;
        }
        Check.same("one plate", due, one::checksum);
        TonePlates x = someDots();
        Check.same("two plates", sumOf(x), x::checksum);
        x.clean(0);
        x.shift(1, 5, 6);
        Check.same("changed", sumOf(x), x::checksum);
        Check.same("asked twice", x.checksum(), x::checksum);
        TonePlates y = new TonePlates();
        Check.same("a new object", sumOf(y), y::checksum);
        y.paint(0, 3, 8, 2, 100);
        Check.same("right after a change", sumOf(y), y::checksum);
        y.undo();
        Check.same("right after undo", new TonePlates().checksum(), y::checksum);
    }
}
