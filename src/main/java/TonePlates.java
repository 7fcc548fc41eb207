import java.util.Arrays;
import java.util.NoSuchElementException;

/** A picture of tones made into dots by up to four plates. README.md says how to use it. */
public final class TonePlates {
    public static final int SYNTAX_ERROR = -2;
    public static final int OUT_OF_RANGE = -3;
    public static final int NAME_ERROR = -4;
    public static final int TOO_MANY = -5;
    public static final int TOO_DEEP = -6;

    private static final int MOST_BYTES = 600;
    private static final int BYTES_OF_APPEND = 20;
    private static final int MOST_WIDTH = 16;
    private static final int MOST_HEIGHT = 12;
    private static final int MOST_CELLS = MOST_WIDTH * MOST_HEIGHT;
    private static final int MOST_TONE = 100;
    private static final int TONE_OF_DIGIT = 11;
    private static final int MOST_PLATES = 4;
    private static final int MOST_TURN = 3;
    private static final int MOST_SHIFT = 17;
    private static final int MOST_LIMIT = 4;
    private static final int FIRST_INK = 1000;
    private static final int MOST_INK = 99999;
    private static final int MOST_FILLED = 9999;
    private static final int MOST_COPIES = 1000;
    private static final int MOST_LETTERS = 6;
    private static final int MOST_FACTOR = 9999;
    private static final int MOST_NESTED = 4;
    private static final int MOST_RESULT = 1000000;

    private static final int ROUND = 0;
    private static final int LINE = 1;
    private static final int DIAMOND = 2;
    private static final int SQUARE = 3;

    /** The greatest p is 3 * 3 + 3 * 3, and no measure is greater than 2 * p * p. */
    private static final int MOST_P = 18;
    private static final int MOST_PLACES = MOST_P * MOST_P;
    private static final int MOST_MEASURE = 2 * MOST_P * MOST_P;

    private static final int MOST_UNDONE = 8;
    /** The sheet in use, those before it, and one for a setup that may turn out to have an error. */
    private static final int VERSIONS = MOST_UNDONE + 2;

    private final byte[] buffer = new byte[MOST_BYTES];
    private int bufferLength = 0;
    private int latestErrorOffset = -1;
    private final Sheet[] versions = new Sheet[VERSIONS];
    private int current = 0;
    private int undoable = 0;
    private Sheet sheet;
    private final Print print = new Print();
    private final SetupReader reader = new SetupReader();

    public TonePlates() {
        for (int i = 0; i < VERSIONS; i++) {
            versions[i] = new Sheet();
        }
        sheet = versions[current];
    }

    public int append(int w0, int w1, int w2, int w3, int w4) {
        if (bufferLength > MOST_BYTES - BYTES_OF_APPEND) {
            return -1;
        }
        appendWord(w0);
        appendWord(w1);
        appendWord(w2);
        appendWord(w3);
        appendWord(w4);
        return bufferLength;
    }

    public int load(int length) throws IllegalArgumentException {
        requireBuffered(length);
        bufferLength = 0;
        boolean isGood = reader.read(buffer, length, draftSheet());
        latestErrorOffset = reader.errorOffset;
        if (!isGood) {
            return reader.error;
        }
        useDraft();
        print.forgetTones();
        return sheet.plateCount;
    }

    public int errorOffset() {
        return latestErrorOffset;
    }

    public int state(int what) throws IllegalArgumentException {
        if (what < 0 || what > 8) {
            throw new IllegalArgumentException("what is 0 to 8");
        }
        print.update(sheet);
        switch (what) {
            case 0:
                return sheet.width;
            case 1:
                return sheet.height;
            case 2:
                return sheet.plateCount;
            case 3:
                return sheet.limit;
            case 4:
                return print.dotsOfAll(sheet);
            case 5:
                return print.cellsHaving(sheet, 0);
            case 6:
                return sheet.plateCount == 0 ? 0 : print.cellsHaving(sheet, sheet.plateCount);
            case 7:
                return sumOfTones(sheet.tones, sheet.cells());
            default:
                return sheet.cleanedOfAll();
        }
    }

    public int find(int length) throws IllegalArgumentException {
        requireBuffered(length);
        if (length < 1 || length > MOST_LETTERS) {
            return -1;
        }
        return sheet.indexOfName(packedName(buffer, 0, length));
    }

    public int plate(int plate, int what) throws IndexOutOfBoundsException, IllegalArgumentException {
        requirePlate(plate);
        if (what < 0 || what > 10) {
            throw new IllegalArgumentException("what is 0 to 10");
        }
        Plate told = sheet.plates[plate];
        print.update(sheet);
        switch (what) {
            case 0:
                return told.a;
            case 1:
                return told.b;
            case 2:
                return told.p();
            case 3:
                return told.shape;
            case 4:
                return told.dx;
            case 5:
                return told.dy;
            case 6:
                return told.ink;
            case 7:
                return print.dots[plate];
            case 8:
                return print.spotsOf(sheet, plate);
            case 9:
                return blocksAlong(sheet.width, told.p()) * blocksAlong(sheet.height, told.p());
            default:
                return sumOfTones(print.tones[plate], sheet.cells());
        }
    }

    public int cell(int plate, int x, int y, int what) throws IndexOutOfBoundsException, IllegalArgumentException {
        requirePlate(plate);
        requireCell(x, y);
        if (what < 0 || what > 4) {
            throw new IllegalArgumentException("what is 0 to 4");
        }
        print.update(sheet);
        int index = sheet.indexOfCell(x, y);
        switch (what) {
            case 0:
                return print.rankAt(sheet, plate, x, y);
            case 1:
                return print.tones[plate][index];
            case 2:
                return print.hasDot(plate, index) ? 1 : 0;
            case 3:
                return print.isSpot(sheet, plate, x, y) ? 1 : 0;
            default:
                return sheet.isCleaned(plate, index) ? 1 : 0;
        }
    }

    public int tone(int x, int y) throws IndexOutOfBoundsException {
        requireCell(x, y);
        return sheet.tones[sheet.indexOfCell(x, y)];
    }

    public int inks(int x, int y) throws IndexOutOfBoundsException {
        requireCell(x, y);
        print.update(sheet);
        return print.inks[sheet.indexOfCell(x, y)];
    }

    public int why(int plate, int x, int y) throws IndexOutOfBoundsException {
        requirePlate(plate);
        requireCell(x, y);
        print.update(sheet);
        int index = sheet.indexOfCell(x, y);
        if (print.hasDot(plate, index)) {
            return 0;
        }
        if (sheet.isCleaned(plate, index)) {
            return 1;
        }
        return print.isDark(sheet, plate, x, y) ? 3 : 2;
    }

    public int off(int plate, int block) throws IndexOutOfBoundsException, NoSuchElementException {
        requirePlate(plate);
        int p = sheet.plates[plate].p();
        int across = blocksAlong(sheet.width, p);
        int blocks = across * blocksAlong(sheet.height, p);
        if (block < 0 || block >= blocks || across < 1) {
            throw new NoSuchElementException("no such block");
        }
        print.update(sheet);
        return print.offOf(sheet, plate, block % across * p, block / across * p);
    }

    public float covered(int plate) throws IndexOutOfBoundsException {
        requirePlate(plate);
        print.update(sheet);
        float cells = (float) sheet.cells();
        return cells > 0 ? (float) print.dots[plate] / cells : 0;
    }

    public double moire(int plate, int other) throws IndexOutOfBoundsException {
        requirePlate(plate);
        requirePlate(other);
        Plate second = sheet.plates[other];
        return moireWith(second, sheet.plates[plate].a, sheet.plates[plate].b);
    }

    public int worst(boolean isSecond) {
        int answer = -1;
        double greatest = -1;
        for (int i = 0; i < sheet.plateCount; i++) {
            for (int j = i + 1; j < sheet.plateCount; j++) {
                double found = moireWith(sheet.plates[j], sheet.plates[i].a, sheet.plates[i].b);
                if (found > greatest) {
                    greatest = found;
                    answer = isSecond ? j : i;
                }
            }
        }
        return answer;
    }

    public int bestTurn(int plate) throws IndexOutOfBoundsException {
        requirePlate(plate);
        if (sheet.plateCount < 2) {
            return 10 * sheet.plates[plate].a + sheet.plates[plate].b;
        }
        int best = -1;
        double least = 0;
        for (int a = 0; a <= MOST_TURN; a++) {
            for (int b = a == 0 ? 1 : 0; b <= MOST_TURN; b++) {
                double greatest = greatestMoire(plate, a, b);
                if (best < 0 || greatest < least) {
                    best = 10 * a + b;
                    least = greatest;
                }
            }
        }
        return best;
    }

    public int copies() {
        print.update(sheet);
        int most = -1;
        for (int i = 0; i < sheet.plateCount; i++) {
            int dots = print.dots[i];
            if (dots > 0) {
                int possible = sheet.plates[i].ink / dots;
                most = most < 0 ? possible : Math.min(most, possible);
            }
        }
        return most;
    }

    public int cellsWith(int dots) throws IllegalArgumentException {
        if (dots < 0 || dots > MOST_PLATES) {
            throw new IllegalArgumentException("dots is 0 to 4");
        }
        print.update(sheet);
        return print.cellsHaving(sheet, dots);
    }

    public int paint(int x, int y, int wide, int high, int tone)
            throws IndexOutOfBoundsException, IllegalArgumentException {
        requireCell(x, y);
        if (wide < 1 || high < 1 || wide > sheet.width - x || high > sheet.height - y) {
            throw new IllegalArgumentException("the rectangle does not lie within the picture");
        }
        if (tone < 0 || tone > MOST_TONE) {
            throw new IllegalArgumentException("tone is 0 to 100");
        }
        startChange();
        for (int row = y; row < y + high; row++) {
            for (int column = x; column < x + wide; column++) {
                sheet.tones[sheet.indexOfCell(column, row)] = tone;
            }
        }
        print.forgetTones();
        print.update(sheet);
        return print.dotsOfAll(sheet);
    }

    public int turn(int plate, int a, int b) throws IndexOutOfBoundsException, IllegalArgumentException {
        requirePlate(plate);
        if (a < 0 || a > MOST_TURN || b < 0 || b > MOST_TURN || (a == 0 && b == 0)) {
            throw new IllegalArgumentException("a and b are 0 to 3, not both 0");
        }
        startChange();
        sheet.plates[plate].a = a;
        sheet.plates[plate].b = b;
        return sheet.plates[plate].p();
    }

    public int shape(int plate, int shape) throws IndexOutOfBoundsException, IllegalArgumentException {
        requirePlate(plate);
        if (shape < ROUND || shape > SQUARE) {
            throw new IllegalArgumentException("shape is 0 to 3");
        }
        startChange();
        int before = sheet.plates[plate].shape;
        sheet.plates[plate].shape = shape;
        return before;
    }

    public int shift(int plate, int dx, int dy) throws IndexOutOfBoundsException, IllegalArgumentException {
        requirePlate(plate);
        if (dx < 0 || dx > MOST_SHIFT || dy < 0 || dy > MOST_SHIFT) {
            throw new IllegalArgumentException("dx and dy are 0 to 17");
        }
        startChange();
        sheet.plates[plate].dx = dx;
        sheet.plates[plate].dy = dy;
        print.update(sheet);
        return print.dotsOfAll(sheet);
    }

    public int limit(int dots) throws IllegalArgumentException {
        if (dots < 1 || dots > MOST_LIMIT) {
            throw new IllegalArgumentException("dots is 1 to 4");
        }
        startChange();
        int before = sheet.limit;
        sheet.limit = dots;
        return before;
    }

    public int clean(int plate) throws IndexOutOfBoundsException {
        requirePlate(plate);
        print.update(sheet);
        startChange();
        int count = 0;
        // The print still shows the dots before the change, so all spots go at once.
        for (int y = 0; y < sheet.height; y++) {
            for (int x = 0; x < sheet.width; x++) {
                if (print.isSpot(sheet, plate, x, y)) {
                    sheet.cleaned[sheet.indexOfCell(x, y)] |= 1 << plate;
                    count++;
                }
            }
        }
        return count;
    }

    public int dirty(int plate) throws IndexOutOfBoundsException {
        requirePlate(plate);
        startChange();
        int count = 0;
        for (int index = 0; index < sheet.cells(); index++) {
            if (sheet.isCleaned(plate, index)) {
                sheet.cleaned[index] &= ~(1 << plate);
                count++;
            }
        }
        return count;
    }

    public int fill(int plate, int ink) throws IndexOutOfBoundsException, IllegalArgumentException {
        requirePlate(plate);
        if (ink < 1 || ink > MOST_FILLED) {
            throw new IllegalArgumentException("ink is 1 to 9999");
        }
        startChange();
        Plate filled = sheet.plates[plate];
        filled.ink = Math.min(filled.ink + ink, MOST_INK);
        return filled.ink;
    }

    public int press(int copies) throws IllegalArgumentException, IllegalStateException {
        if (copies < 1 || copies > MOST_COPIES) {
            throw new IllegalArgumentException("copies is 1 to 1000");
        }
        int possible = copies();
        if (possible < 0) {
            throw new IllegalStateException("there are no dots");
        }
        int printed = Math.min(copies, possible);
        startChange();
        for (int i = 0; i < sheet.plateCount; i++) {
            sheet.plates[i].ink -= printed * print.dots[i];
        }
        return printed;
    }

    public int undo() {
        if (undoable < 1) {
            return -1;
        }
        undoable--;
        current = (current + VERSIONS - 1) % VERSIONS;
        sheet = versions[current];
        print.forgetTones();
        return undoable;
    }

    public long checksum() {
        long sum = 0;
        for (int what = 0; what <= 8; what++) {
            sum = 31 * sum + state(what);
        }
        for (int i = 0; i < sheet.plateCount; i++) {
            for (int what = 0; what <= 10; what++) {
                sum = 31 * sum + plate(i, what);
            }
        }
        for (int index = 0; index < sheet.cells(); index++) {
            sum = 31 * sum + sheet.tones[index];
            sum = 31 * sum + print.inks[index];
        }
        return sum;
    }

    private void appendWord(int word) {
        for (int bits = 24; bits >= 0 && bufferLength < MOST_BYTES; bits -= 8) {
            buffer[bufferLength] = (byte) (word >>> bits);
            bufferLength++;
        }
    }

    private void requireBuffered(int length) {
        if (length < 0 || length > bufferLength) {
            throw new IllegalArgumentException("the buffer has not so many bytes");
        }
    }

    private void requirePlate(int plate) {
        if (plate < 0 || plate >= sheet.plateCount) {
            throw new IndexOutOfBoundsException("no such plate");
        }
    }

    private void requireCell(int x, int y) {
        if (x < 0 || x >= sheet.width || y < 0 || y >= sheet.height) {
            throw new IndexOutOfBoundsException("no such cell");
        }
    }

    private Sheet draftSheet() {
        return versions[(current + 1) % VERSIONS];
    }

    private void useDraft() {
        current = (current + 1) % VERSIONS;
        sheet = versions[current];
        undoable = Math.min(undoable + 1, MOST_UNDONE);
        print.forgetDots();
    }

    /** Leaves the sheet before as it is, for undo: the change goes to a copy of it. */
    private void startChange() {
        draftSheet().become(sheet);
        useDraft();
    }

    private double greatestMoire(int plate, int a, int b) {
        double greatest = 0;
        for (int i = 0; i < sheet.plateCount; i++) {
            if (i != plate) {
                double found = moireWith(sheet.plates[i], a, b);
                greatest = found > greatest ? found : greatest;
            }
        }
        return greatest;
    }

    private static double moireWith(Plate other, int a, int b) {
        int p = a * a + b * b;
        int q = other.p();
        int across = a * q - other.a * p;
        int down = b * q - other.b * p;
        int e = across * across + down * down;
        return e == 0 ? 0.0 : (double) (p * p * q * q) / (double) e;
    }

    private static int blocksAlong(int cells, int p) {
        return p < 1 ? 0 : cells / p;
    }

    private static int sumOfTones(int[] tones, int cells) {
        int sum = 0;
        for (int i = 0; i < cells && i < tones.length; i++) {
            sum += tones[i];
        }
        return sum;
    }

    /** The leading 1 keeps names apart that differ only by zero bytes in front. */
    private static long packedName(byte[] bytes, int start, int end) {
        long packed = 1;
        for (int i = start; i < end && i < bytes.length; i++) {
            packed = packed * 256 + (bytes[i] & 255);
        }
        return packed;
    }

    private static int remainder(int v, int p) {
        return p < 1 ? 0 : Math.floorMod(v, p);
    }

    private static int limited(long result, int least, int most) {
        return (int) Math.max(least, Math.min(most, result));
    }

    /** A plate as it was told and changed. */
    private static final class Plate {
        long name;
        int a = 1;
        int b;
        int shape;
        int dx;
        int dy;
        int ink;
        /** Null if the plate has none. */
        Curve curve;

        int p() {
            return a * a + b * b;
        }

        void become(Plate other) {
            name = other.name;
            a = other.a;
            b = other.b;
            shape = other.shape;
            dx = other.dx;
            dy = other.dy;
            ink = other.ink;
            curve = other.curve;
        }
    }

    /** All data that a setup text replaces and that a change can be undone for. */
    private static final class Sheet {
        int width = 8;
        int height = 8;
        int limit = MOST_LIMIT;
        int plateCount = 0;
        final Plate[] plates = new Plate[MOST_PLATES];
        final int[] tones = new int[MOST_CELLS];
        /** For each cell the set of the plates whose dot was cleaned away there. */
        final int[] cleaned = new int[MOST_CELLS];

        Sheet() {
            for (int i = 0; i < MOST_PLATES; i++) {
                plates[i] = new Plate();
            }
        }

        void empty(int newWidth, int newHeight) {
            width = newWidth;
            height = newHeight;
            limit = MOST_LIMIT;
            plateCount = 0;
            Arrays.fill(tones, 0);
            Arrays.fill(cleaned, 0);
        }

        void become(Sheet other) {
            width = other.width;
            height = other.height;
            limit = other.limit;
            plateCount = other.plateCount;
            for (int i = 0; i < plateCount; i++) {
                plates[i].become(other.plates[i]);
            }
            System.arraycopy(other.tones, 0, tones, 0, MOST_CELLS);
            System.arraycopy(other.cleaned, 0, cleaned, 0, MOST_CELLS);
        }

        void addPlate(long name, int a, int b, int shape, Curve curve) {
            if (plateCount >= MOST_PLATES) {
                return;
            }
            Plate added = plates[plateCount];
            added.name = name;
            added.a = a;
            added.b = b;
            added.shape = shape;
            added.dx = 0;
            added.dy = 0;
            added.ink = FIRST_INK;
            added.curve = curve;
            plateCount++;
        }

        int cells() {
            return width * height;
        }

        int indexOfCell(int x, int y) {
            return y * width + x;
        }

        int indexOfName(long name) {
            for (int i = 0; i < plateCount; i++) {
                if (plates[i].name == name) {
                    return i;
                }
            }
            return -1;
        }

        boolean isCleaned(int plate, int index) {
            return (cleaned[index] >> plate & 1) == 1;
        }

        int cleanedOfAll() {
            int count = 0;
            for (int index = 0; index < cells(); index++) {
                count += Integer.bitCount(cleaned[index]);
            }
            return count;
        }
    }

    /** An expression for the tones on a plate, its operations behind what they are made of. */
    private static final class Curve {
        /** A number stands for itself, so all else is less than 0. */
        static final int TONE = -1;
        static final int X = -2;
        static final int Y = -3;
        static final int PLATE = -4;
        static final int ADD = -5;
        static final int SUBTRACT = -6;
        static final int MULTIPLY = -7;
        static final int DIVIDE = -8;

        /** Two open results for each of 4 parentheses, and three for what is inside. */
        static final int MOST_OPEN = 2 * MOST_NESTED + 3;

        private final int[] items;

        Curve(int[] items) {
            this.items = items;
        }

        int toneAt(int[] open, int tone, int x, int y, int plate) {
            int count = 0;
            for (int item : items) {
                if (item > ADD) {
                    if (count < open.length) {
                        open[count] = operand(item, tone, x, y, plate);
                        count++;
                    }
                } else if (count >= 2 && count <= open.length) {
                    count--;
                    open[count - 1] = result(item, open[count - 1], open[count]);
                }
            }
            return count < 1 ? 0 : limited(open[0], 0, MOST_TONE);
        }

        private static int operand(int item, int tone, int x, int y, int plate) {
            switch (item) {
                case TONE:
                    return tone;
                case X:
                    return x;
                case Y:
                    return y;
                case PLATE:
                    return plate;
                default:
                    return item;
            }
        }

        private static int result(int operation, long left, long right) {
            switch (operation) {
                case ADD:
                    return limited(left + right, -MOST_RESULT, MOST_RESULT);
                case SUBTRACT:
                    return limited(left - right, -MOST_RESULT, MOST_RESULT);
                case MULTIPLY:
                    return limited(left * right, -MOST_RESULT, MOST_RESULT);
                default:
                    return right == 0 ? 0 : limited(left / right, -MOST_RESULT, MOST_RESULT);
            }
        }
    }

    /** The ranks of the places of one screen, kept until a screen or shape is another one. */
    private static final class Screen {
        private int a = 0;
        private int b = 0;
        private int p = 0;
        private int shape = -1;
        private final int[] ranks = new int[MOST_PLACES];

        /** For each measure, starts is where its ranks begin. */
        void fit(Plate plate, int[] starts) {
            if (a == plate.a && b == plate.b && shape == plate.shape) {
                return;
            }
            a = plate.a;
            b = plate.b;
            p = plate.p();
            shape = plate.shape;
            Arrays.fill(starts, 0);
            for (int y = 0; y < p; y++) {
                for (int x = 0; x < p; x++) {
                    starts[measureAt(x, y) + 1]++;
                }
            }
            for (int i = 1; i < starts.length; i++) {
                starts[i] += starts[i - 1];
            }
            for (int y = 0; y < p; y++) {
                for (int x = 0; x < p; x++) {
                    int measure = measureAt(x, y);
                    ranks[y * p + x] = starts[measure];
                    starts[measure]++;
                }
            }
        }

        /** Neither x nor y may be less than 0. */
        int rankOf(int x, int y) {
            return p < 1 ? 0 : ranks[y % p * p + x % p];
        }

        private int measureAt(int x, int y) {
            int across = 2 * remainder(a * x + b * y, p) - p;
            int down = 2 * remainder(a * y - b * x, p) - p;
            switch (shape) {
                case ROUND:
                    return across * across + down * down;
                case LINE:
                    return Math.abs(across);
                case DIAMOND:
                    return Math.abs(across) + Math.abs(down);
                default:
                    return Math.max(Math.abs(across), Math.abs(down));
            }
        }
    }

    /** What follows from a sheet, worked out when it is asked for, and again only after a change. */
    private static final class Print {
        final int[][] tones = new int[MOST_PLATES][MOST_CELLS];
        final int[] inks = new int[MOST_CELLS];
        final int[] dots = new int[MOST_PLATES];
        private final Screen[] screens = new Screen[MOST_PLATES];
        private final int[] starts = new int[MOST_MEASURE + 2];
        private final int[] open = new int[Curve.MOST_OPEN];
        private boolean hasTones = false;
        private boolean hasDots = false;

        Print() {
            for (int i = 0; i < MOST_PLATES; i++) {
                screens[i] = new Screen();
            }
        }

        void forgetTones() {
            hasTones = false;
            hasDots = false;
        }

        void forgetDots() {
            hasDots = false;
        }

        void update(Sheet sheet) {
            if (!hasTones) {
                for (int i = 0; i < sheet.plateCount; i++) {
                    takeTones(sheet, i);
                }
                hasTones = true;
            }
            if (!hasDots) {
                Arrays.fill(inks, 0);
                for (int i = 0; i < sheet.plateCount; i++) {
                    putDots(sheet, i);
                }
                hasDots = true;
            }
        }

        private void takeTones(Sheet sheet, int plate) {
            Curve curve = sheet.plates[plate].curve;
            int[] taken = tones[plate];
            for (int y = 0; y < sheet.height; y++) {
                for (int x = 0; x < sheet.width; x++) {
                    int index = sheet.indexOfCell(x, y);
                    int tone = sheet.tones[index];
                    taken[index] = curve == null ? tone : curve.toneAt(open, tone, x, y, plate);
                }
            }
        }

        private void putDots(Sheet sheet, int plate) {
            screens[plate].fit(sheet.plates[plate], starts);
            int count = 0;
            for (int y = 0; y < sheet.height; y++) {
                for (int x = 0; x < sheet.width; x++) {
                    int index = sheet.indexOfCell(x, y);
                    boolean isFree = Integer.bitCount(inks[index]) < sheet.limit;
                    if (isFree && !sheet.isCleaned(plate, index) && isDark(sheet, plate, x, y)) {
                        inks[index] |= 1 << plate;
                        count++;
                    }
                }
            }
            dots[plate] = count;
        }

        int rankAt(Sheet sheet, int plate, int x, int y) {
            return screens[plate].rankOf(x + sheet.plates[plate].dx, y + sheet.plates[plate].dy);
        }

        /** Whether the tone alone asks for a dot, whatever was cleaned or put before. */
        boolean isDark(Sheet sheet, int plate, int x, int y) {
            int p = sheet.plates[plate].p();
            return rankAt(sheet, plate, x, y) * 100 < tones[plate][sheet.indexOfCell(x, y)] * p * p;
        }

        boolean hasDot(int plate, int index) {
            return (inks[index] >> plate & 1) == 1;
        }

        boolean isSpot(Sheet sheet, int plate, int x, int y) {
            return isDotAt(sheet, plate, x, y)
                    && !isDotAt(sheet, plate, x, y - 1)
                    && !isDotAt(sheet, plate, x, y + 1)
                    && !isDotAt(sheet, plate, x - 1, y)
                    && !isDotAt(sheet, plate, x + 1, y);
        }

        private boolean isDotAt(Sheet sheet, int plate, int x, int y) {
            return x >= 0 && x < sheet.width && y >= 0 && y < sheet.height
                    && hasDot(plate, sheet.indexOfCell(x, y));
        }

        int spotsOf(Sheet sheet, int plate) {
            int count = 0;
            for (int y = 0; y < sheet.height; y++) {
                for (int x = 0; x < sheet.width; x++) {
                    count += isSpot(sheet, plate, x, y) ? 1 : 0;
                }
            }
            return count;
        }

        int dotsOfAll(Sheet sheet) {
            int count = 0;
            for (int i = 0; i < sheet.plateCount; i++) {
                count += dots[i];
            }
            return count;
        }

        int cellsHaving(Sheet sheet, int wanted) {
            int count = 0;
            for (int index = 0; index < sheet.cells(); index++) {
                count += Integer.bitCount(inks[index]) == wanted ? 1 : 0;
            }
            return count;
        }

        /** The block must lie within the picture. */
        int offOf(Sheet sheet, int plate, int left, int top) {
            int p = sheet.plates[plate].p();
            int sum = 0;
            for (int y = top; y < top + p; y++) {
                for (int x = left; x < left + p; x++) {
                    int index = sheet.indexOfCell(x, y);
                    sum += (hasDot(plate, index) ? 100 : 0) - tones[plate][index];
                }
            }
            return sum;
        }
    }

    /**
     * Reads a setup text from the left to the right. Every error lies at the first byte of the
     * token at which it is seen, so the first one seen has the smallest offset.
     */
    private static final class SetupReader {
        private static final int END = 0;
        private static final int DIGITS = 1;
        private static final int WORD = 2;
        /** Any other byte, also one that no token has. */
        private static final int SIGN = 3;

        /** Greater than any bound of a number, and far from an overflow. */
        private static final int TOO_GREAT = 1000000;

        int error;
        int errorOffset;
        private byte[] text;
        private int length;
        private Sheet sheet;
        private boolean hasTones;
        private boolean hasLimit;
        private int kind;
        private int start;
        private int end;
        private int number;
        private final int[] items = new int[MOST_BYTES];
        private int itemCount;

        boolean read(byte[] bytes, int byteCount, Sheet target) {
            text = bytes;
            length = Math.min(byteCount, bytes.length);
            sheet = target;
            error = 0;
            errorOffset = -1;
            hasTones = false;
            hasLimit = false;
            end = 0;
            advance();
            if (!readPicture()) {
                return false;
            }
            for (int i = 0; i < length && kind != END; i++) {
                if (!readStatement() || !takeSign(';')) {
                    return false;
                }
            }
            return true;
        }

        private boolean readPicture() {
            if (!isWord("picture")) {
                return fail(SYNTAX_ERROR);
            }
            advance();
            if (!takeNumber(1, MOST_WIDTH)) {
                return false;
            }
            int width = number;
            if (!takeNumber(1, MOST_HEIGHT)) {
                return false;
            }
            sheet.empty(width, number);
            return takeSign(';');
        }

        private boolean readStatement() {
            if (isWord("tones")) {
                return readTones();
            }
            if (isWord("plate")) {
                return readPlate();
            }
            if (isWord("ink")) {
                return readInk();
            }
            if (isWord("limit")) {
                return readLimit();
            }
            return fail(SYNTAX_ERROR);
        }

        /** A line too many is left to the caller, who wants a ";" there. */
        private boolean readTones() {
            if (hasTones) {
                return fail(SYNTAX_ERROR);
            }
            hasTones = true;
            advance();
            for (int y = 0; y < sheet.height; y++) {
                if (kind != DIGITS) {
                    return fail(SYNTAX_ERROR);
                }
                if (end - start != sheet.width) {
                    return fail(OUT_OF_RANGE);
                }
                for (int x = 0; x < sheet.width; x++) {
                    sheet.tones[sheet.indexOfCell(x, y)] = (text[start + x] - '0') * TONE_OF_DIGIT;
                }
                advance();
            }
            return true;
        }

        private boolean readPlate() {
            if (sheet.plateCount >= MOST_PLATES) {
                return fail(TOO_MANY);
            }
            advance();
            if (!isName()) {
                return false;
            }
            long name = packedName(text, start, end);
            if (sheet.indexOfName(name) >= 0) {
                return fail(NAME_ERROR);
            }
            advance();
            if (!takeNumber(0, MOST_TURN)) {
                return false;
            }
            int a = number;
            if (!takeNumber(a == 0 ? 1 : 0, MOST_TURN)) {
                return false;
            }
            int b = number;
            int shape = shapeHere();
            if (shape < 0) {
                return fail(SYNTAX_ERROR);
            }
            advance();
            Curve curve = null;
            if (isWord("curve")) {
                advance();
                itemCount = 0;
                if (!readSum(0)) {
                    return false;
                }
                curve = new Curve(Arrays.copyOf(items, itemCount));
            }
            sheet.addPlate(name, a, b, shape, curve);
            return true;
        }

        private boolean readInk() {
            advance();
            if (!isName()) {
                return false;
            }
            int plate = sheet.indexOfName(packedName(text, start, end));
            if (plate < 0) {
                return fail(NAME_ERROR);
            }
            advance();
            if (!takeNumber(0, MOST_INK)) {
                return false;
            }
            sheet.plates[plate].ink = number;
            return true;
        }

        private boolean readLimit() {
            if (hasLimit) {
                return fail(SYNTAX_ERROR);
            }
            hasLimit = true;
            advance();
            if (!takeNumber(1, MOST_LIMIT)) {
                return false;
            }
            sheet.limit = number;
            return true;
        }

        private boolean readSum(int depth) {
            if (!readTerm(depth)) {
                return false;
            }
            for (int i = 0; i < length && (isSign('+') || isSign('-')); i++) {
                int operation = isSign('+') ? Curve.ADD : Curve.SUBTRACT;
                advance();
                if (!readTerm(depth)) {
                    return false;
                }
                addItem(operation);
            }
            return true;
        }

        private boolean readTerm(int depth) {
            if (!readFactor(depth)) {
                return false;
            }
            for (int i = 0; i < length && (isSign('*') || isSign('/')); i++) {
                int operation = isSign('*') ? Curve.MULTIPLY : Curve.DIVIDE;
                advance();
                if (!readFactor(depth)) {
                    return false;
                }
                addItem(operation);
            }
            return true;
        }

        private boolean readFactor(int depth) {
            if (isSign('(')) {
                if (depth >= MOST_NESTED) {
                    return fail(TOO_DEEP);
                }
                advance();
                return readSum(depth + 1) && takeSign(')');
            }
            if (kind == DIGITS) {
                if (!takeNumber(0, MOST_FACTOR)) {
                    return false;
                }
                addItem(number);
                return true;
            }
            int item = variableHere();
            if (item == 0) {
                return fail(SYNTAX_ERROR);
            }
            addItem(item);
            advance();
            return true;
        }

        private int variableHere() {
            if (isWord("tone")) {
                return Curve.TONE;
            }
            if (isWord("x")) {
                return Curve.X;
            }
            if (isWord("y")) {
                return Curve.Y;
            }
            return isWord("plate") ? Curve.PLATE : 0;
        }

        private int shapeHere() {
            if (isWord("round")) {
                return ROUND;
            }
            if (isWord("line")) {
                return LINE;
            }
            if (isWord("diamond")) {
                return DIAMOND;
            }
            return isWord("square") ? SQUARE : -1;
        }

        private void addItem(int item) {
            if (itemCount < items.length) {
                items[itemCount] = item;
                itemCount++;
            }
        }

        private boolean takeNumber(int least, int most) {
            if (kind != DIGITS) {
                return fail(SYNTAX_ERROR);
            }
            int value = 0;
            for (int i = start; i < end; i++) {
                value = Math.min(value * 10 + text[i] - '0', TOO_GREAT);
            }
            if (value < least || value > most) {
                return fail(OUT_OF_RANGE);
            }
            number = value;
            advance();
            return true;
        }

        private boolean takeSign(char sign) {
            if (!isSign(sign)) {
                return fail(SYNTAX_ERROR);
            }
            advance();
            return true;
        }

        private boolean isName() {
            if (kind != WORD) {
                return fail(SYNTAX_ERROR);
            }
            return end - start <= MOST_LETTERS || fail(OUT_OF_RANGE);
        }

        private boolean isSign(char sign) {
            return kind == SIGN && text[start] == sign;
        }

        private boolean isWord(String word) {
            if (kind != WORD || end - start != word.length()) {
                return false;
            }
            for (int i = 0; i < word.length(); i++) {
                if (text[start + i] != word.charAt(i)) {
                    return false;
                }
            }
            return true;
        }

        private boolean fail(int code) {
            error = code;
            errorOffset = start;
            return false;
        }

        private void advance() {
            start = end;
            while (start < length && text[start] == ' ') {
                start++;
            }
            if (start >= length) {
                kind = END;
                end = start;
                return;
            }
            kind = SIGN;
            end = start + 1;
            takeRun('a', 'z', WORD);
            takeRun('0', '9', DIGITS);
        }

        private void takeRun(char first, char last, int kindOfRun) {
            if (text[start] < first || text[start] > last) {
                return;
            }
            kind = kindOfRun;
            while (end < length && text[end] >= first && text[end] <= last) {
                end++;
            }
        }
    }
}
