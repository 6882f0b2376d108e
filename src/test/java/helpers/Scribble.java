import java.util.Random;

/** Texts by chance: most of them right, many with one spot spoilt. */
final class Scribble {
    private static final String[] NAMES = {"slope", "speed", "tick", "sick", "sea", "wet", "moved"};
    private static final String[] BITS = {
        "work", "fin", "or", "and", "not", "slope", "sick", "+", "-", "*", "/", "(", ")", "[", "]", "<", ">", "=", ";",
        "0", "9999", "10000", "00012", "wo", "A", "$", "\t", "\u00e9", " ", ""
    };

    private final Random dice;
    private final StringBuilder text = new StringBuilder();

    private Scribble(Random dice) {
        this.dice = dice;
    }

    static String text(Random dice, int most) {
        Scribble s = new Scribble(dice);
        boolean workFirst = dice.nextBoolean();
        int clauses = dice.nextInt(16) == 0 ? 3 : dice.nextInt(3);
        for (int i = 0; i < clauses; i++) {
            s.put((i == 0) == workFirst ? "work" : "fin");
            s.c(1 + dice.nextInt(4));
            s.put(";");
        }
        s.blanks();
        if (dice.nextInt(3) == 0 && s.text.length() > 0) {
            s.spoil();
        }
        if (s.text.length() > most) {
            s.text.setLength(most);
        }
        return s.text.toString();
    }

    private void spoil() {
        int at = dice.nextInt(text.length() + 1);
        String bit = BITS[dice.nextInt(BITS.length)];
        switch (dice.nextInt(3)) {
            case 0:
                text.insert(at, bit);
                break;
            case 1:
                text.setLength(at);
                break;
            default:
                text.replace(at, Math.min(text.length(), at + 1 + dice.nextInt(3)), bit);
                break;
        }
    }

    private void blanks() {
        for (int i = dice.nextInt(4) == 0 ? dice.nextInt(3) : 0; i > 0; i--) {
            text.append(' ');
        }
    }

    private void put(String token) {
        blanks();
        boolean word = Character.isLetterOrDigit(token.charAt(0));
        boolean behindWord = text.length() > 0 && Character.isLetterOrDigit(text.charAt(text.length() - 1));
        if (word && behindWord) {
            text.append(' ');
        }
        text.append(token);
    }

    private void c(int size) {
        a(size);
        for (int i = dice.nextInt(2); i > 0; i--) {
            put("or");
            a(size - 1);
        }
    }

    private void a(int size) {
        b(size);
        for (int i = dice.nextInt(2); i > 0; i--) {
            put("and");
            b(size - 1);
        }
    }

    private void b(int size) {
        int kind = dice.nextInt(5);
        if (kind == 0) {
            for (int i = dice.nextInt(10) == 0 ? dice.nextInt(9) : 0; i >= 0; i--) {
                put("not");
            }
            b(size - 1);
        } else if (kind == 1 && size > 0) {
            put("[");
            c(size - 1);
            put("]");
        } else {
            e(size);
            put(new String[] {"<", ">", "="}[dice.nextInt(3)]);
            e(size);
        }
    }

    private void e(int size) {
        t(size);
        for (int i = dice.nextInt(2); i > 0; i--) {
            put(dice.nextBoolean() ? "+" : "-");
            t(size - 1);
        }
    }

    private void t(int size) {
        f(size);
        for (int i = dice.nextInt(2); i > 0; i--) {
            put(dice.nextBoolean() ? "*" : "/");
            f(size - 1);
        }
    }

    private void f(int size) {
        int kind = dice.nextInt(6);
        if (kind == 0 && size > 0) {
            int more = dice.nextInt(10) == 0 ? dice.nextInt(9) : 0;
            for (int i = 0; i <= more; i++) {
                put("(");
            }
            e(size - 1);
            for (int i = 0; i <= more; i++) {
                put(")");
            }
        } else if (kind < 3) {
            put(NAMES[dice.nextInt(NAMES.length)]);
        } else {
            int n = dice.nextInt(3);
            put(String.valueOf(n == 0 ? dice.nextInt(10) : n == 1 ? dice.nextInt(100) : dice.nextInt(10000)));
        }
    }
}
