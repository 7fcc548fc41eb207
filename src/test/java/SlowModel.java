import java.math.BigInteger;
import java.util.ArrayDeque;
import java.util.ArrayList;
import java.util.Comparator;
import java.util.Deque;
import java.util.HashSet;
import java.util.List;
import java.util.NoSuchElementException;
import java.util.Set;
import java.util.regex.Matcher;
import java.util.regex.Pattern;

/**
 * The document's words written down a second time, as directly as they can be, for RandomRunsTest:
 * it keeps nothing that it can work out anew, and shares no code with TonePlates.
 */
final class SlowModel {
    private static final class SetupError extends Exception {
        private static final long serialVersionUID = 1;

        final int code;
        final int offset;

        SetupError(int code, int offset) {
            this.code = code;
            this.offset = offset;
        }
    }

    private interface Expression {
        long value(int tone, int x, int y, int plate);
    }

    private static final class Plate implements Cloneable {
        String name;
        int a;
        int b;
        int shape;
        int dx;
        int dy;
        int ink = 1000;
        Expression curve;
        Set<List<Integer>> cleaned = new HashSet<>();

        Plate copy() {
            try {
                Plate copy = (Plate) clone();
                copy.cleaned = new HashSet<>(cleaned);
                return copy;
            } catch (CloneNotSupportedException e) {
                throw new AssertionError(e);
            }
        }

        int p() {
            return a * a + b * b;
        }
    }

    private static final class Data {
        int width = 8;
        int height = 8;
        int limit = 4;
        int[][] tones = new int[8][8];
        List<Plate> plates = new ArrayList<>();

        Data copy() {
            Data copy = new Data();
            copy.width = width;
            copy.height = height;
            copy.limit = limit;
            copy.tones = new int[height][];
            for (int y = 0; y < height; y++) {
                copy.tones[y] = tones[y].clone();
            }
            for (Plate plate : plates) {
                copy.plates.add(plate.copy());
            }
            return copy;
        }
    }

    private static final class Token {
        final String text;
        final int offset;

        Token(String text, int offset) {
            this.text = text;
            this.offset = offset;
        }

        boolean isNumber() {
            return text.matches("[0-9]+");
        }

        boolean isWord() {
            return text.matches("[a-z]+");
        }
    }

    private String buffer = "";
    private int errorOffset = -1;
    private Data data = new Data();
    private final Deque<Data> before = new ArrayDeque<>();

    int append(int... words) {
        if (buffer.length() + 20 > 600) {
            return -1;
        }
        StringBuilder all = new StringBuilder(buffer);
        for (int word : words) {
            for (int i = 3; i >= 0; i--) {
                all.append((char) (word >> 8 * i & 255));
            }
        }
        buffer = all.toString();
        return buffer.length();
    }

    int load(int length) {
        if (length < 0 || length > buffer.length()) {
            throw new IllegalArgumentException();
        }
        String text = buffer.substring(0, length);
        buffer = "";
        try {
            Data read = new Parser(text).setup();
            change();
            data = read;
            errorOffset = -1;
            return data.plates.size();
        } catch (SetupError e) {
            errorOffset = e.offset;
            return e.code;
        }
    }

    int errorOffset() {
        return errorOffset;
    }

    int state(int what) {
        int dots = 0;
        int none = 0;
        int full = 0;
        int tones = 0;
        for (int y = 0; y < data.height; y++) {
            for (int x = 0; x < data.width; x++) {
                int here = Integer.bitCount(inks(x, y));
                dots += here;
                none += here == 0 ? 1 : 0;
                full += !data.plates.isEmpty() && here == data.plates.size() ? 1 : 0;
                tones += data.tones[y][x];
            }
        }
        int cleaned = data.plates.stream().mapToInt(plate -> plate.cleaned.size()).sum();
        int[] all = {data.width, data.height, data.plates.size(), data.limit, dots, none, full, tones, cleaned};
        if (what < 0 || what >= all.length) {
            throw new IllegalArgumentException();
        }
        return all[what];
    }

    int find(int length) {
        if (length < 0 || length > buffer.length()) {
            throw new IllegalArgumentException();
        }
        for (int i = 0; i < data.plates.size(); i++) {
            if (data.plates.get(i).name.equals(buffer.substring(0, length))) {
                return i;
            }
        }
        return -1;
    }

    int plate(int plate, int what) {
        Plate told = told(plate);
        int dots = 0;
        int spots = 0;
        int tones = 0;
        boolean[][] has = dotsOf(plate);
        for (int y = 0; y < data.height; y++) {
            for (int x = 0; x < data.width; x++) {
                dots += has[y][x] ? 1 : 0;
                spots += isSpot(has, x, y) ? 1 : 0;
                tones += toneOn(plate, x, y);
            }
        }
        int blocks = (data.width / told.p()) * (data.height / told.p());
        int[] all = {told.a, told.b, told.p(), told.shape, told.dx, told.dy, told.ink, dots, spots, blocks, tones};
        if (what < 0 || what >= all.length) {
            throw new IllegalArgumentException();
        }
        return all[what];
    }

    int cell(int plate, int x, int y, int what) {
        Plate told = told(plate);
        inPicture(x, y);
        switch (what) {
            case 0:
                return rank(told, x, y);
            case 1:
                return toneOn(plate, x, y);
            case 2:
                return dotsOf(plate)[y][x] ? 1 : 0;
            case 3:
                return isSpot(dotsOf(plate), x, y) ? 1 : 0;
            case 4:
                return told.cleaned.contains(List.of(x, y)) ? 1 : 0;
            default:
                throw new IllegalArgumentException();
        }
    }

    int tone(int x, int y) {
        inPicture(x, y);
        return data.tones[y][x];
    }

    int inks(int x, int y) {
        inPicture(x, y);
        int set = 0;
        int put = 0;
        for (int i = 0; i < data.plates.size(); i++) {
            boolean isClean = data.plates.get(i).cleaned.contains(List.of(x, y));
            if (wants(i, x, y) && !isClean && put < data.limit) {
                set += (int) Math.pow(2, i);
                put++;
            }
        }
        return set;
    }

    int why(int plate, int x, int y) {
        Plate told = told(plate);
        inPicture(x, y);
        if (told.cleaned.contains(List.of(x, y))) {
            return 1;
        }
        if (!wants(plate, x, y)) {
            return 2;
        }
        return dotsOf(plate)[y][x] ? 0 : 3;
    }

    int off(int plate, int block) {
        int p = told(plate).p();
        List<int[]> blocks = new ArrayList<>();
        for (int y = 0; y + p <= data.height; y += p) {
            for (int x = 0; x + p <= data.width; x += p) {
                blocks.add(new int[] {x, y});
            }
        }
        if (block < 0 || block >= blocks.size()) {
            throw new NoSuchElementException();
        }
        boolean[][] has = dotsOf(plate);
        int dots = 0;
        int tones = 0;
        for (int i = 0; i < p * p; i++) {
            int x = blocks.get(block)[0] + i % p;
            int y = blocks.get(block)[1] + i / p;
            dots += has[y][x] ? 1 : 0;
            tones += toneOn(plate, x, y);
        }
        return 100 * dots - tones;
    }

    float covered(int plate) {
        return (float) plate(plate, 7) / (float) (data.width * data.height);
    }

    double moire(int plate, int other) {
        Plate first = told(plate);
        Plate second = told(other);
        return moire(first.a, first.b, second.a, second.b);
    }

    int worst(boolean isSecond) {
        List<int[]> pairs = new ArrayList<>();
        for (int i = 0; i < data.plates.size(); i++) {
            for (int j = i + 1; j < data.plates.size(); j++) {
                pairs.add(new int[] {i, j});
            }
        }
        return pairs.stream()
                .min(Comparator.<int[]>comparingDouble(pair -> -moire(pair[0], pair[1]))
                        .thenComparingInt(pair -> pair[0])
                        .thenComparingInt(pair -> pair[1]))
                .map(pair -> isSecond ? pair[1] : pair[0])
                .orElse(-1);
    }

    int bestTurn(int plate) {
        Plate told = told(plate);
        if (data.plates.size() == 1) {
            return 10 * told.a + told.b;
        }
        List<Integer> turns = new ArrayList<>();
        for (int turn = 1; turn <= 33; turn++) {
            if (turn % 10 <= 3) {
                turns.add(turn);
            }
        }
        return turns.stream()
                .min(Comparator.<Integer>comparingDouble(turn -> data.plates.stream()
                                .filter(other -> other != told)
                                .mapToDouble(other -> moire(turn / 10, turn % 10, other.a, other.b))
                                .max().orElseThrow())
                        .thenComparingInt(turn -> turn))
                .orElseThrow();
    }

    int copies() {
        int copies = -1;
        for (int i = 0; i < data.plates.size(); i++) {
            int dots = plate(i, 7);
            if (dots > 0) {
                int can = data.plates.get(i).ink / dots;
                copies = copies == -1 || can < copies ? can : copies;
            }
        }
        return copies;
    }

    int cellsWith(int dots) {
        if (dots < 0 || dots > 4) {
            throw new IllegalArgumentException();
        }
        int count = 0;
        for (int y = 0; y < data.height; y++) {
            for (int x = 0; x < data.width; x++) {
                count += Integer.bitCount(inks(x, y)) == dots ? 1 : 0;
            }
        }
        return count;
    }

    int paint(int x, int y, int wide, int high, int tone) {
        inPicture(x, y);
        boolean isOutside = (long) x + wide > data.width || (long) y + high > data.height;
        if (wide < 1 || high < 1 || isOutside || tone < 0 || tone > 100) {
            throw new IllegalArgumentException();
        }
        change();
        for (int i = 0; i < wide * high; i++) {
            data.tones[y + i / wide][x + i % wide] = tone;
        }
        return state(4);
    }

    int turn(int plate, int a, int b) {
        told(plate);
        if (a < 0 || a > 3 || b < 0 || b > 3 || a + b == 0) {
            throw new IllegalArgumentException();
        }
        change();
        told(plate).a = a;
        told(plate).b = b;
        return a * a + b * b;
    }

    int shape(int plate, int shape) {
        int old = told(plate).shape;
        if (shape < 0 || shape > 3) {
            throw new IllegalArgumentException();
        }
        change();
        told(plate).shape = shape;
        return old;
    }

    int shift(int plate, int dx, int dy) {
        told(plate);
        if (dx < 0 || dx > 17 || dy < 0 || dy > 17) {
            throw new IllegalArgumentException();
        }
        change();
        told(plate).dx = dx;
        told(plate).dy = dy;
        return state(4);
    }

    int limit(int dots) {
        if (dots < 1 || dots > 4) {
            throw new IllegalArgumentException();
        }
        change();
        int old = data.limit;
        data.limit = dots;
        return old;
    }

    int clean(int plate) {
        told(plate);
        change();
        boolean[][] has = dotsOf(plate);
        int count = 0;
        for (int y = 0; y < data.height; y++) {
            for (int x = 0; x < data.width; x++) {
                if (isSpot(has, x, y)) {
                    told(plate).cleaned.add(List.of(x, y));
                    count++;
                }
            }
        }
        return count;
    }

    int dirty(int plate) {
        int count = told(plate).cleaned.size();
        change();
        told(plate).cleaned.clear();
        return count;
    }

    int fill(int plate, int ink) {
        told(plate);
        if (ink < 1 || ink > 9999) {
            throw new IllegalArgumentException();
        }
        change();
        told(plate).ink = Math.min(99999, told(plate).ink + ink);
        return told(plate).ink;
    }

    int press(int copies) {
        if (copies < 1 || copies > 1000) {
            throw new IllegalArgumentException();
        }
        if (state(4) == 0) {
            throw new IllegalStateException();
        }
        change();
        int[] dots = new int[data.plates.size()];
        for (int i = 0; i < dots.length; i++) {
            dots[i] = plate(i, 7);
        }
        for (int copy = 0; copy < copies; copy++) {
            for (int i = 0; i < dots.length; i++) {
                if (data.plates.get(i).ink < dots[i]) {
                    return copy;
                }
            }
            for (int i = 0; i < dots.length; i++) {
                data.plates.get(i).ink -= dots[i];
            }
        }
        return copies;
    }

    int undo() {
        if (before.isEmpty()) {
            return -1;
        }
        data = before.removeLast();
        return before.size();
    }

    long checksum() {
        List<Integer> numbers = new ArrayList<>();
        for (int what = 0; what <= 8; what++) {
            numbers.add(state(what));
        }
        for (int i = 0; i < data.plates.size(); i++) {
            for (int what = 0; what <= 10; what++) {
                numbers.add(plate(i, what));
            }
        }
        for (int y = 0; y < data.height; y++) {
            for (int x = 0; x < data.width; x++) {
                numbers.add(tone(x, y));
                numbers.add(inks(x, y));
            }
        }
        BigInteger sum = BigInteger.ZERO;
        for (int number : numbers) {
            sum = sum.multiply(BigInteger.valueOf(31)).add(BigInteger.valueOf(number));
        }
        return sum.longValue();
    }

    private void change() {
        before.addLast(data);
        data = data.copy();
        if (before.size() > 8) {
            before.removeFirst();
        }
    }

    private Plate told(int plate) {
        if (plate < 0 || plate >= data.plates.size()) {
            throw new IndexOutOfBoundsException();
        }
        return data.plates.get(plate);
    }

    private void inPicture(int x, int y) {
        if (x < 0 || x >= data.width || y < 0 || y >= data.height) {
            throw new IndexOutOfBoundsException();
        }
    }

    private static double moire(int a, int b, int c, int d) {
        int p = a * a + b * b;
        int q = c * c + d * d;
        int e = (a * q - c * p) * (a * q - c * p) + (b * q - d * p) * (b * q - d * p);
        return e == 0 ? 0.0 : (double) (p * p * q * q) / (double) e;
    }

    private static int measure(Plate plate, int x, int y) {
        int p = plate.p();
        int u = Math.floorMod(plate.a * x + plate.b * y, p);
        int v = Math.floorMod(plate.a * y - plate.b * x, p);
        int first = Math.abs(2 * u - p);
        int second = Math.abs(2 * v - p);
        int[] all = {first * first + second * second, first, first + second, Math.max(first, second)};
        return all[plate.shape];
    }

    /** The rank is how many places come before this one. */
    private static int rank(Plate plate, int cellX, int cellY) {
        int p = plate.p();
        int x = (cellX + plate.dx) % p;
        int y = (cellY + plate.dy) % p;
        int mine = measure(plate, x, y);
        int rank = 0;
        for (int otherY = 0; otherY < p; otherY++) {
            for (int otherX = 0; otherX < p; otherX++) {
                int other = measure(plate, otherX, otherY);
                boolean isBefore = otherY < y || (otherY == y && otherX < x);
                rank += other < mine || (other == mine && isBefore) ? 1 : 0;
            }
        }
        return rank;
    }

    private int toneOn(int plate, int x, int y) {
        Expression curve = data.plates.get(plate).curve;
        int tone = data.tones[y][x];
        return curve == null ? tone : (int) Math.max(0, Math.min(100, curve.value(tone, x, y, plate)));
    }

    private boolean wants(int plate, int x, int y) {
        Plate told = data.plates.get(plate);
        return rank(told, x, y) * 100 < toneOn(plate, x, y) * told.p() * told.p();
    }

    private boolean[][] dotsOf(int plate) {
        boolean[][] has = new boolean[data.height][data.width];
        for (int y = 0; y < data.height; y++) {
            for (int x = 0; x < data.width; x++) {
                has[y][x] = (inks(x, y) & 1 << plate) != 0;
            }
        }
        return has;
    }

    private static boolean isSpot(boolean[][] has, int x, int y) {
        if (!has[y][x]) {
            return false;
        }
        int[][] steps = {{0, -1}, {0, 1}, {-1, 0}, {1, 0}};
        for (int[] step : steps) {
            int nextX = x + step[0];
            int nextY = y + step[1];
            boolean isInside = nextY >= 0 && nextY < has.length && nextX >= 0 && nextX < has[0].length;
            if (isInside && has[nextY][nextX]) {
                return false;
            }
        }
        return true;
    }

    private static final class Parser {
        private final List<Token> tokens = new ArrayList<>();
        private int next = 0;

        Parser(String text) {
            Matcher matcher = Pattern.compile("[0-9]+|[a-z]+|[^ ]").matcher(text);
            while (matcher.find()) {
                tokens.add(new Token(matcher.group(), matcher.start()));
            }
            tokens.add(new Token("", text.length()));
        }

        private Token peek() {
            return tokens.get(next);
        }

        private SetupError error(int code) {
            return new SetupError(code, peek().offset);
        }

        private boolean sees(String text) {
            return peek().text.equals(text);
        }

        private void take(String text) throws SetupError {
            if (!sees(text)) {
                throw error(-2);
            }
            next++;
        }

        private int number(int least, int most) throws SetupError {
            if (!peek().isNumber()) {
                throw error(-2);
            }
            BigInteger value = new BigInteger(peek().text);
            if (value.compareTo(BigInteger.valueOf(least)) < 0 || value.compareTo(BigInteger.valueOf(most)) > 0) {
                throw error(-3);
            }
            next++;
            return value.intValue();
        }

        private String name() throws SetupError {
            if (!peek().isWord()) {
                throw error(-2);
            }
            if (peek().text.length() > 6) {
                throw error(-3);
            }
            return peek().text;
        }

        Data setup() throws SetupError {
            Data data = new Data();
            take("picture");
            data.width = number(1, 16);
            data.height = number(1, 12);
            take(";");
            data.tones = new int[data.height][data.width];
            Set<String> once = new HashSet<>();
            while (!sees("")) {
                String word = peek().text;
                if ((word.equals("tones") || word.equals("limit")) && !once.add(word)) {
                    throw error(-2);
                }
                if (word.equals("plate") && data.plates.size() == 4) {
                    throw error(-5);
                }
                statement(data);
                take(";");
            }
            return data;
        }

        private void statement(Data data) throws SetupError {
            if (sees("tones")) {
                next++;
                for (int y = 0; y < data.height; y++) {
                    line(data, y);
                }
            } else if (sees("limit")) {
                next++;
                data.limit = number(1, 4);
            } else if (sees("ink")) {
                next++;
                Plate inked = named(data, name());
                if (inked == null) {
                    throw error(-4);
                }
                next++;
                inked.ink = number(0, 99999);
            } else {
                take("plate");
                plateStatement(data);
            }
        }

        private void line(Data data, int y) throws SetupError {
            if (!peek().isNumber()) {
                throw error(-2);
            }
            if (peek().text.length() != data.width) {
                throw error(-3);
            }
            for (int x = 0; x < data.width; x++) {
                data.tones[y][x] = 11 * Character.digit(peek().text.charAt(x), 10);
            }
            next++;
        }

        private static Plate named(Data data, String name) {
            return data.plates.stream().filter(plate -> plate.name.equals(name)).findFirst().orElse(null);
        }

        private void plateStatement(Data data) throws SetupError {
            Plate plate = new Plate();
            plate.name = name();
            if (named(data, plate.name) != null) {
                throw error(-4);
            }
            next++;
            plate.a = number(0, 3);
            Token second = peek();
            plate.b = number(0, 3);
            if (plate.p() == 0) {
                throw new SetupError(-3, second.offset);
            }
            plate.shape = List.of("round", "line", "diamond", "square").indexOf(peek().text);
            if (plate.shape < 0) {
                throw error(-2);
            }
            next++;
            if (sees("curve")) {
                next++;
                plate.curve = sum(0);
            }
            data.plates.add(plate);
        }

        private Expression sum(int depth) throws SetupError {
            Expression all = term(depth);
            while (sees("+") || sees("-")) {
                Expression left = all;
                boolean isAdd = sees("+");
                next++;
                Expression right = term(depth);
                all = (tone, x, y, plate) -> {
                    long first = left.value(tone, x, y, plate);
                    long second = right.value(tone, x, y, plate);
                    return limited(isAdd ? first + second : first - second);
                };
            }
            return all;
        }

        private Expression term(int depth) throws SetupError {
            Expression all = factor(depth);
            while (sees("*") || sees("/")) {
                Expression left = all;
                boolean isTimes = sees("*");
                next++;
                Expression right = factor(depth);
                all = (tone, x, y, plate) -> {
                    long first = left.value(tone, x, y, plate);
                    long second = right.value(tone, x, y, plate);
                    return isTimes ? limited(first * second) : second == 0 ? 0 : limited(first / second);
                };
            }
            return all;
        }

        private Expression factor(int depth) throws SetupError {
            if (sees("(")) {
                if (depth == 4) {
                    throw error(-6);
                }
                next++;
                Expression inside = sum(depth + 1);
                take(")");
                return inside;
            }
            if (peek().isNumber()) {
                long value = number(0, 9999);
                return (tone, x, y, plate) -> value;
            }
            Token token = peek();
            switch (token.text) {
                case "tone":
                    next++;
                    return (tone, x, y, plate) -> tone;
                case "x":
                    next++;
                    return (tone, x, y, plate) -> x;
                case "y":
                    next++;
                    return (tone, x, y, plate) -> y;
                case "plate":
                    next++;
                    return (tone, x, y, plate) -> plate;
                default:
                    throw error(-2);
            }
        }

        private static long limited(long value) {
            return Math.max(-1000000, Math.min(1000000, value));
        }
    }
}
