import java.util.ArrayList;
import java.util.List;
import java.util.Random;

/**
 * Runs of random calls on TonePlates and on SlowModel: each answer must be the same. Arguments: how
 * many runs, and the first seed.
 */
public final class RandomRunsTest {
    /** Of the 512 that the document allows, less what one step may need. */
    private static final int CALLS = 512 - 70;

    private final Random random;
    private final RandomTexts texts;
    private final TonePlates made = new TonePlates();
    private final SlowModel model = new SlowModel();
    private final List<String> told = new ArrayList<>();
    private boolean isRight = true;
    private int pending = 0;

    private RandomRunsTest(long seed) {
        random = new Random(seed);
        texts = new RandomTexts(random);
    }

    public static void main(String[] args) {
        int runs = args.length > 0 ? Integer.parseInt(args[0]) : 60;
        int first = args.length > 1 ? Integer.parseInt(args[1]) : 0;
        for (int seed = first; seed < first + runs; seed++) {
            new RandomRunsTest(seed).go(seed);
            for (int i = 0; i < 10; i++) {
                new RandomRunsTest(seed * 10L + i).goOverTexts(seed * 10L + i);
            }
        }
        Check.end("RandomRunsTest");
    }

    private void go(long seed) {
        setUp();
        while (told.size() < CALLS && isRight) {
            int kind = random.nextInt(100);
            if (kind < 6) {
                setUp();
            } else if (kind < 50) {
                change();
            } else {
                ask();
            }
        }
        Check.count(isRight, "seed " + seed + ":\n  " + String.join("\n  ", told));
    }

    private void goOverTexts(long seed) {
        while (told.size() < CALLS && isRight) {
            String text = texts.next();
            append(text);
            load(text.length());
            compare("errorOffset()", model::errorOffset, made::errorOffset);
        }
        Check.count(isRight, "seed " + seed + ":\n  " + String.join("\n  ", told));
    }

    private void compare(String call, Check.Call due, Check.Call got) {
        Object right = Check.answerOf(due);
        Object answer = Check.answerOf(got);
        told.add(call + " -> " + answer);
        if (!right.equals(answer)) {
            told.add("due is " + right);
            isRight = false;
        }
    }

    private void setUp() {
        String text = texts.next();
        load(pending);
        if (random.nextInt(40) == 0) {
            text = "";
        }
        append(text);
        load(random.nextInt(25) == 0 ? random.nextInt(700) - 20 : text.length());
        compare("errorOffset()", model::errorOffset, made::errorOffset);
        compare("checksum()", model::checksum, made::checksum);
    }

    private void append(String text) {
        told.add("text \"" + text + "\"");
        for (int i = 0; i < text.length(); i += 20) {
            int[] w = new int[5];
            for (int j = 0; j < 20; j++) {
                int one = i + j < text.length() ? text.charAt(i + j) : random.nextInt(256);
                w[j / 4] = w[j / 4] << 8 | one;
            }
            append(w);
        }
    }

    private void append(int[] w) {
        compare("append", () -> model.append(w), () -> made.append(w[0], w[1], w[2], w[3], w[4]));
        pending += pending <= 580 ? 20 : 0;
    }

    private void load(int length) {
        compare("load(" + length + ")", () -> model.load(length), () -> made.load(length));
        if (length >= 0 && length <= pending) {
            pending = 0;
        }
    }

    /** Mostly within 0 to most, at times a little or far outside of it. */
    private int near(int most) {
        int kind = random.nextInt(30);
        if (kind == 0) {
            return new int[] {Integer.MIN_VALUE, Integer.MAX_VALUE, -1, most + 1}[random.nextInt(4)];
        }
        return kind == 1 ? most : random.nextInt(most + 1);
    }

    private int plate() {
        return near(Math.max(0, model.state(2) - 1));
    }

    private int x() {
        return near(model.state(0) - 1);
    }

    private int y() {
        return near(model.state(1) - 1);
    }

    private void change() {
        int plate = plate();
        int x = x();
        int y = y();
        switch (random.nextInt(14)) {
            case 0: case 1: case 2:
                paint(x, y);
                break;
            case 3: case 4:
                int a = near(3);
                int b = near(3);
                compare("turn(" + plate + ", " + a + ", " + b + ")",
                        () -> model.turn(plate, a, b), () -> made.turn(plate, a, b));
                break;
            case 5:
                int shape = near(3);
                compare("shape(" + plate + ", " + shape + ")",
                        () -> model.shape(plate, shape), () -> made.shape(plate, shape));
                break;
            case 6:
                int dx = near(17);
                int dy = near(17);
                compare("shift(" + plate + ", " + dx + ", " + dy + ")",
                        () -> model.shift(plate, dx, dy), () -> made.shift(plate, dx, dy));
                break;
            case 7:
                int most = near(4);
                compare("limit(" + most + ")", () -> model.limit(most), () -> made.limit(most));
                break;
            case 8: case 9:
                compare("clean(" + plate + ")", () -> model.clean(plate), () -> made.clean(plate));
                break;
            default:
                changeMore(plate);
                break;
        }
        compare("state(4)", () -> model.state(4), () -> made.state(4));
        if (random.nextInt(8) == 0) {
            compare("checksum()", model::checksum, made::checksum);
        }
    }

    private void paint(int x, int y) {
        int wide = near(Math.max(1, model.state(0) - Math.max(0, Math.min(x, 15))));
        int high = near(Math.max(1, model.state(1) - Math.max(0, Math.min(y, 15))));
        int tone = near(100);
        compare("paint(" + x + ", " + y + ", " + wide + ", " + high + ", " + tone + ")",
                () -> model.paint(x, y, wide, high, tone), () -> made.paint(x, y, wide, high, tone));
    }

    private void changeMore(int plate) {
        switch (random.nextInt(5)) {
            case 0:
                compare("dirty(" + plate + ")", () -> model.dirty(plate), () -> made.dirty(plate));
                break;
            case 1:
                int ink = near(9999);
                compare("fill(" + plate + ", " + ink + ")",
                        () -> model.fill(plate, ink), () -> made.fill(plate, ink));
                break;
            case 2:
                int copies = near(random.nextBoolean() ? 10 : 1000);
                compare("press(" + copies + ")", () -> model.press(copies), () -> made.press(copies));
                break;
            default:
                for (int i = random.nextInt(random.nextInt(5) == 0 ? 10 : 3); i >= 0; i--) {
                    compare("undo()", model::undo, made::undo);
                }
                break;
        }
    }

    private void ask() {
        int plate = plate();
        int x = x();
        int y = y();
        switch (random.nextInt(13)) {
            case 0:
                int state = near(8);
                compare("state(" + state + ")", () -> model.state(state), () -> made.state(state));
                break;
            case 1: case 2:
                int what = near(10);
                compare("plate(" + plate + ", " + what + ")",
                        () -> model.plate(plate, what), () -> made.plate(plate, what));
                break;
            case 3: case 4:
                int of = near(4);
                compare("cell(" + plate + ", " + x + ", " + y + ", " + of + ")",
                        () -> model.cell(plate, x, y, of), () -> made.cell(plate, x, y, of));
                break;
            case 5:
                compare("tone(" + x + ", " + y + ")", () -> model.tone(x, y), () -> made.tone(x, y));
                break;
            case 6:
                compare("inks(" + x + ", " + y + ")", () -> model.inks(x, y), () -> made.inks(x, y));
                break;
            case 7:
                compare("why(" + plate + ", " + x + ", " + y + ")",
                        () -> model.why(plate, x, y), () -> made.why(plate, x, y));
                break;
            case 8:
                int block = near(5);
                compare("off(" + plate + ", " + block + ")",
                        () -> model.off(plate, block), () -> made.off(plate, block));
                break;
            default:
                askMore(plate);
                break;
        }
    }

    private void askMore(int plate) {
        switch (random.nextInt(6)) {
            case 0:
                compare("covered(" + plate + ")", () -> model.covered(plate), () -> made.covered(plate));
                break;
            case 1:
                int other = plate();
                compare("moire(" + plate + ", " + other + ")",
                        () -> model.moire(plate, other), () -> made.moire(plate, other));
                break;
            case 2:
                compare("worst(false)", () -> model.worst(false), () -> made.worst(false));
                compare("worst(true)", () -> model.worst(true), () -> made.worst(true));
                break;
            case 3:
                compare("bestTurn(" + plate + ")", () -> model.bestTurn(plate), () -> made.bestTurn(plate));
                break;
            case 4:
                int dots = near(4);
                compare("copies()", model::copies, made::copies);
                compare("cellsWith(" + dots + ")", () -> model.cellsWith(dots), () -> made.cellsWith(dots));
                break;
            default:
                askName();
                break;
        }
    }

    private void askName() {
        String[] names = {"k", "c", "plate", "curve", "abcdef", "abcdefg", "tone", "\u0000k", "m "};
        String name = names[random.nextInt(names.length)];
        if (random.nextBoolean()) {
            load(pending);
            append(name);
        }
        int length = near(9);
        compare("find(" + length + ")", () -> model.find(length), () -> made.find(length));
        compare("find(" + name.length() + ")", () -> model.find(name.length()), () -> made.find(name.length()));
    }
}
