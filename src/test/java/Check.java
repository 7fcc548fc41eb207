import java.nio.charset.StandardCharsets;
import java.util.Arrays;

/** What all tests use: counting of answers that are due, and texts that go into the input buffer. */
final class Check {
    private static int passed = 0;
    private static int failed = 0;

    private Check() {
    }

    interface Call {
        Object run();
    }

    static void same(String what, Object due, Call call) {
        Object got = answerOf(call);
        count(due.equals(got), what + " answered " + got + ", due is " + due);
    }

    static void fails(String what, Class<? extends RuntimeException> due, Call call) {
        same(what, "throws " + due.getSimpleName(), call);
    }

    /** The answer of a call, or the name of the exception that it throws. */
    static Object answerOf(Call call) {
        try {
            return call.run();
        } catch (RuntimeException e) {
            return "throws " + e.getClass().getSimpleName();
        }
    }

    static void count(boolean isRight, String otherwise) {
        if (isRight) {
            passed++;
        } else {
            failed++;
            System.out.println(otherwise);
        }
    }

    /** Puts the text into the buffer, with bytes 0 behind it up to a whole call. */
    static void put(TonePlates x, String text) {
        byte[] bytes = text.getBytes(StandardCharsets.ISO_8859_1);
        byte[] padded = Arrays.copyOf(bytes, (bytes.length + 19) / 20 * 20);
        for (int i = 0; i < padded.length; i += 20) {
            x.append(word(padded, i), word(padded, i + 4), word(padded, i + 8), word(padded, i + 12),
                    word(padded, i + 16));
        }
    }

    private static int word(byte[] bytes, int at) {
        return (bytes[at] & 255) << 24 | (bytes[at + 1] & 255) << 16 | (bytes[at + 2] & 255) << 8
                | (bytes[at + 3] & 255);
    }

    /** For an object with an empty buffer. */
    static int load(TonePlates x, String text) {
        put(x, text);
        return x.load(text.length());
    }

    static TonePlates loaded(String text) {
        TonePlates x = new TonePlates();
        int got = load(x, text);
        count(got >= 0, "\"" + text + "\" has the error " + got + " at " + x.errorOffset());
        return x;
    }

    /** Ends the test's program. */
    static void end(String test) {
        System.out.println(test + ": " + passed + " right, " + failed + " wrong");
        System.exit(failed == 0 ? 0 : 1);
    }
}
