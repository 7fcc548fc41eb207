/** Promises 2 and 6: append, find. */
public final class BufferTest {
    public static void main(String[] args) {
        bytesComeInTheirOrder();
        theBufferEndsAt600();
        findsNames();
        findIsExact();
        Check.end("BufferTest");
    }

    private static void bytesComeInTheirOrder() {
        TonePlates x = new TonePlates();
        // "pict" "ure " "3 2;" "plat" "e k "
        Check.same("append", 20, () -> x.append(0x70696374, 0x75726520, 0x3320323b, 0x706c6174, 0x65206b20));
        Check.same("append again", 40, () -> x.append(0x31203020, 0x6c696e65, 0x3b202020, 0x20202020, 0x20202020));
        Check.same("load", 1, () -> x.load(29));
        Check.same("the width", 3, () -> x.state(0));
        Check.same("the height", 2, () -> x.state(1));
        Check.same("the buffer is empty", 20, () -> x.append(0, 0, 0, 0, 0));
    }

    private static void theBufferEndsAt600() {
        TonePlates x = new TonePlates();
        Check.put(x, "k");
        for (int i = 2; i <= 30; i++) {
            int due = i * 20;
            Check.same("append " + i, due, () -> x.append(-1, -1, -1, -1, -1));
        }
        Check.same("append 31", -1, () -> x.append(0x6d000000, 0, 0, 0, 0));
        Check.same("append 32", -1, () -> x.append(0, 0, 0, 0, 0));
        Check.same("find(600)", -1, () -> x.find(600));
        Check.fails("find(601)", IllegalArgumentException.class, () -> x.find(601));
        Check.fails("load(601)", IllegalArgumentException.class, () -> x.load(601));
        Check.same("load(600)", TonePlates.SYNTAX_ERROR, () -> x.load(600));
        Check.same("the buffer is empty", 20, () -> x.append(0, 0, 0, 0, 0));
    }

    private static void findsNames() {
        TonePlates x = Check.loaded("picture 4 2;plate k 1 0 line;plate abcdef 1 1 round;plate plate 2 0 line;");
        Check.same("find with an empty buffer", -1, () -> x.find(0));
        Check.fails("find(1) with an empty buffer", IllegalArgumentException.class, () -> x.find(1));
        Check.put(x, "k");
        Check.same("k", 0, () -> x.find(1));
        Check.same("k again: the buffer stays", 0, () -> x.find(1));
        Check.same("no bytes", -1, () -> x.find(0));
        Check.same("k and a byte 0", -1, () -> x.find(2));
        Check.same("20 bytes", -1, () -> x.find(20));
        Check.fails("find(21)", IllegalArgumentException.class, () -> x.find(21));
        Check.fails("find(-1)", IllegalArgumentException.class, () -> x.find(-1));
        Check.fails("find(MIN)", IllegalArgumentException.class, () -> x.find(Integer.MIN_VALUE));
        Check.same("the buffer goes on", 40, () -> x.append(0, 0, 0, 0, 0));
    }

    private static void findIsExact() {
        TonePlates x = Check.loaded("picture 4 2;plate k 1 0 line;plate abcdef 1 1 round;plate plate 2 0 line;");
        Object[][] cases = {
            {"abcdef", 6, 1}, {"abcdef", 5, -1}, {"abcdefg", 7, -1}, {"abcdeg", 6, -1}, {"bbcdef", 6, -1},
            {"plate", 5, 2}, {" k", 2, -1}, {"k ", 2, -1}, {"K", 1, -1}, {"\u0000k", 2, -1},
            {"\u0000\u0000\u0000\u0000\u0000k", 6, -1}, {"\u00ebk", 2, -1}, {"\u0000\u0000\u0000\u0000\u0000\u0000\u0001k", 8, -1}, {"abcdfe", 6, -1}, {"bacdef", 6, -1},
            {"fedcba", 6, -1}, {"k", 1, 0}
        };
        for (Object[] one : cases) {
            x.load(0);
            Check.put(x, (String) one[0]);
            Check.same("find \"" + one[0] + "\", " + one[1], one[2], () -> x.find((int) one[1]));
        }
        x.undo();
        Check.same("without plates", -1, () -> x.find(1));
    }
}
