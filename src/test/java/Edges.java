/** What the tests of the document's edges share. */
final class Edges {
    static final Class<IndexOutOfBoundsException> INDEX = IndexOutOfBoundsException.class;
    static final Class<IllegalArgumentException> ARGUMENT = IllegalArgumentException.class;
    static final Class<IllegalStateException> STATE = IllegalStateException.class;

    /** The plates of busy(): k has the dots .#.# / #.#. / ..## at first, c those that k leaves. */
    private static final String BUSY = "picture 4 3;tones 4444 4444 0099;plate k 1 1 line;"
            + "plate c 0 1 square curve tone+x;limit 1;ink c 70;";
    private static final int OFFSET_OF_BUSY = 11;

    private Edges() {
    }

    interface CallOn {
        Object run(TonePlates x);
    }

    /** All kinds of data, five changes, an error found before, and no byte in the buffer. */
    static TonePlates busy() {
        TonePlates x = Check.loaded(BUSY);
        x.clean(0);
        x.shift(1, 2, 3);
        x.fill(0, 5);
        x.paint(0, 0, 1, 1, 100);
        Check.load(x, "picture 4 3!");
        return x;
    }

    private static TonePlates busyWithBytes() {
        TonePlates x = busy();
        Check.put(x, "k");
        return x;
    }

    /** All that an object tells but the error offset, down to its first change; the object is used up. */
    static String whole(TonePlates x) {
        StringBuilder all = new StringBuilder();
        for (int length = 0; length <= 7; length++) {
            int bytes = length;
            all.append(Check.answerOf(() -> x.find(bytes))).append(' ');
        }
        for (int plate = 0; plate < x.state(2); plate++) {
            for (int i = 0; i < x.state(0) * x.state(1); i++) {
                all.append(x.cell(plate, i % x.state(0), i / x.state(0), 4));
            }
        }
        int left;
        do {
            all.append(" sum ").append(x.checksum());
            left = x.undo();
            all.append(" left ").append(left);
        } while (left >= 0);
        int length = x.append(0x6b202020, 0, 0, 0, 0);
        all.append(" bytes ").append(length);
        all.append(" read ").append(x.load(Math.max(0, length))).append(" at ").append(x.errorOffset());
        return all.toString();
    }

    /** The call throws what is due, and afterwards all is as it would be without it. */
    static void refused(String what, Class<? extends RuntimeException> due, CallOn call) {
        TonePlates x = busyWithBytes();
        Check.fails(what, due, () -> call.run(x));
        Check.same(what + ": the error offset stays", OFFSET_OF_BUSY, x::errorOffset);
        Check.same(what + ": nothing changes", whole(busyWithBytes()), () -> whole(x));
    }

    /** Where the mark | stands the error is due; it is no byte of the text. All else stays. */
    static void error(String what, int code, String marked) {
        String text = marked.replace("|", "");
        TonePlates x = busy();
        Check.same(what + ", \"" + marked + "\"", code, () -> Check.load(x, text));
        Check.same(what + ", offset in \"" + marked + "\"", marked.indexOf('|'), x::errorOffset);
        Check.same(what + ", all else after \"" + marked + "\"", whole(busy()), () -> whole(x));
    }

    /** The object that has read the text. */
    static TonePlates taken(String what, int plates, String text) {
        TonePlates x = new TonePlates();
        Check.same(what + ", \"" + text + "\"", plates, () -> Check.load(x, text));
        Check.same(what + ", no error in \"" + text + "\"", -1, x::errorOffset);
        return x;
    }

    /** The values of one row of cells. */
    interface Row {
        int at(int x);
    }

    static String row(int width, Row values) {
        StringBuilder all = new StringBuilder();
        for (int x = 0; x < width; x++) {
            all.append(x > 0 ? " " : "").append(values.at(x));
        }
        return all.toString();
    }
}
