import java.util.ArrayList;
import java.util.List;
import java.util.Random;

/** Setup texts, most of them right, others with a mistake somewhere. */
final class RandomTexts {
    private static final String[] NAMES = {"k", "c", "m", "yy", "plate", "curve", "abcdef", "tone", "ink"};
    private static final String[] SHAPES = {"round", "line", "diamond", "square"};
    private static final String[] ODD = {
        ";", "(", ")", "+", "-", "*", "/", "x", "y", "tone", "plate", "tones", "limit", "ink", "curve", "picture",
        "round", "abcdefg", "0", "4", "5", "17", "013", "99999", "100000", "10000", "99999999999", "!", "K", "\t",
        "\u0000", "\u00e9", ",", "tonesx", "00000000000000000000003", "((((((1))))))"
    };

    private final Random random;
    private List<String> tokens;

    RandomTexts(Random random) {
        this.random = random;
    }

    String next() {
        tokens = new ArrayList<>();
        int width = 1 + random.nextInt(random.nextInt(3) == 0 ? 16 : 8);
        int height = 1 + random.nextInt(random.nextInt(3) == 0 ? 12 : 6);
        add("picture", number(width), number(height), ";");
        List<String> told = new ArrayList<>();
        int plates = random.nextInt(5);
        int tonesAt = random.nextInt(plates + 2);
        int limitAt = random.nextInt(plates + 4);
        for (int i = 0; i <= plates; i++) {
            if (i == tonesAt) {
                addTones(width, height);
            }
            if (i == limitAt) {
                add("limit", number(1 + random.nextInt(4)), ";");
            }
            if (i < plates) {
                addPlate(told);
            }
            if (!told.isEmpty() && random.nextInt(3) == 0) {
                int ink = random.nextInt(4) == 0 ? random.nextInt(100000) : random.nextInt(600);
                add("ink", told.get(random.nextInt(told.size())), number(ink), ";");
            }
        }
        if (random.nextInt(5) < 2) {
            breakSome();
        }
        String text = joined();
        return text.length() <= 600 ? text : text.substring(0, 600);
    }

    private void add(String... more) {
        tokens.addAll(List.of(more));
    }

    private String number(int value) {
        return (random.nextInt(10) == 0 ? "00" : "") + value;
    }

    private void addTones(int width, int height) {
        add("tones");
        boolean isDark = random.nextBoolean();
        for (int y = 0; y < height; y++) {
            StringBuilder line = new StringBuilder();
            for (int x = 0; x < width; x++) {
                line.append(isDark ? 9 - random.nextInt(3) : random.nextInt(10));
            }
            add(line.toString());
        }
        add(";");
    }

    private void addPlate(List<String> told) {
        String name = NAMES[random.nextInt(NAMES.length)];
        for (int i = 0; i < 20 && told.contains(name); i++) {
            name = NAMES[random.nextInt(NAMES.length)];
        }
        told.add(name);
        int a = random.nextInt(4);
        int b = a == 0 ? 1 + random.nextInt(3) : random.nextInt(4);
        add("plate", name, number(a), number(b), SHAPES[random.nextInt(4)]);
        if (random.nextInt(2) == 0) {
            add("curve");
            addSum(0);
        }
        add(";");
    }

    private void addSum(int depth) {
        addTerm(depth);
        for (int i = 0; i < 3 && random.nextInt(5) < 2; i++) {
            add(random.nextBoolean() ? "+" : "-");
            addTerm(depth);
        }
    }

    private void addTerm(int depth) {
        addFactor(depth);
        for (int i = 0; i < 3 && random.nextInt(5) < 2; i++) {
            add(random.nextBoolean() ? "*" : "/");
            addFactor(depth);
        }
    }

    private void addFactor(int depth) {
        int kind = random.nextInt(8);
        if (kind == 0 && depth < 5) {
            add("(");
            addSum(depth + 1);
            add(")");
        } else if (kind <= 3) {
            add("tone");
        } else if (kind == 4) {
            add(new String[] {"x", "y", "plate"}[random.nextInt(3)]);
        } else {
            add(number(random.nextInt(6) == 0 ? random.nextInt(10000) : random.nextInt(120)));
        }
    }

    private void breakSome() {
        for (int i = 1 + random.nextInt(2); i > 0; i--) {
            int at = random.nextInt(tokens.size());
            switch (random.nextInt(6)) {
                case 5:
                    nestDeeply(at);
                    break;
                case 0:
                    if (tokens.size() > 1) {
                        tokens.remove(at);
                    }
                    break;
                case 1:
                    tokens.add(at, tokens.get(random.nextInt(tokens.size())));
                    break;
                case 2:
                    tokens.set(at, ODD[random.nextInt(ODD.length)]);
                    break;
                case 3:
                    tokens.add(at, ODD[random.nextInt(ODD.length)]);
                    break;
                default:
                    repeatStatement(at);
                    break;
            }
        }
    }

    private void nestDeeply(int at) {
        int curve = at;
        while (curve < tokens.size() && !tokens.get(curve).equals("curve")) {
            curve++;
        }
        int deep = 3 + random.nextInt(3);
        for (int i = 0; i < deep && curve + 1 < tokens.size(); i++) {
            tokens.add(curve + 1, "(");
            tokens.add(curve + 3 + i, ")");
        }
    }

    private void repeatStatement(int at) {
        List<String> statement = new ArrayList<>();
        for (int i = at; i < tokens.size() && !tokens.get(i).equals(";"); i++) {
            statement.add(tokens.get(i));
        }
        tokens.addAll(statement);
        tokens.add(";");
    }

    private String joined() {
        StringBuilder text = new StringBuilder();
        String before = ";";
        boolean isWide = random.nextInt(6) == 0;
        for (String token : tokens) {
            boolean isNeeded = isRun(before, '0', '9') && isRun(token, '0', '9')
                    || isRun(before, 'a', 'z') && isRun(token, 'a', 'z');
            if (isNeeded || random.nextInt(isWide ? 2 : 12) == 0) {
                text.append(isWide && random.nextBoolean() ? "  " : " ");
            }
            text.append(token);
            before = token;
        }
        if (random.nextInt(8) == 0) {
            text.append("  ");
        }
        return text.toString();
    }

    private static boolean isRun(String token, char first, char last) {
        char end = token.charAt(token.length() - 1);
        return end >= first && end <= last;
    }
}
