import java.util.ArrayList;
import java.util.List;
import java.util.regex.Matcher;
import java.util.regex.Pattern;

/** Reads a text by descent, one method for each letter of the grammar, and works it out for a ship. */
final class Descent {
    private static final Pattern TOKEN = Pattern.compile("[a-z]+|[0-9]+|[-+*/()<>=;]|\\[|\\]");

    /** A place where the text can't go on. */
    private static final class Wrong extends RuntimeException {
        private static final long serialVersionUID = 1L;
        final int place;

        Wrong(int place) {
            this.place = place;
        }
    }

    private final List<String> tokens = new ArrayList<>();
    private final List<Integer> places = new ArrayList<>();
    private final Plain ship;
    private int at;
    boolean work = true;
    boolean fin = true;

    Descent(String text, Plain ship) {
        this.ship = ship;
        int i = 0;
        Matcher matcher = TOKEN.matcher(text);
        while (i < text.length()) {
            if (text.charAt(i) == ' ') {
                i++;
            } else if (matcher.region(i, text.length()).lookingAt()) {
                tokens.add(matcher.group());
                places.add(i);
                i = matcher.end();
            } else {
                tokens.add("?");
                places.add(i);
                i++;
            }
        }
        tokens.add("");
        places.add(text.length());
    }

    int fault() {
        boolean workCame = false;
        boolean finCame = false;
        try {
            while (!peek().isEmpty()) {
                if (peek().equals("work") && !workCame) {
                    workCame = true;
                    at++;
                    work = c(0);
                } else if (peek().equals("fin") && !finCame) {
                    finCame = true;
                    at++;
                    fin = c(0);
                } else {
                    throw new Wrong(places.get(at));
                }
                need(";");
            }
            return -1;
        } catch (Wrong wrong) {
            return wrong.place;
        }
    }

    private String peek() {
        return tokens.get(at);
    }

    private boolean skip(String token) {
        if (peek().equals(token)) {
            at++;
            return true;
        }
        return false;
    }

    private void need(String token) {
        if (!skip(token)) {
            throw new Wrong(places.get(at));
        }
    }

    private void opens(int depth) {
        if (depth == 8) {
            throw new Wrong(places.get(at - 1));
        }
    }

    private boolean c(int depth) {
        boolean value = a(depth);
        while (skip("or")) {
            value |= a(depth);
        }
        return value;
    }

    private boolean a(int depth) {
        boolean value = b(depth);
        while (skip("and")) {
            value &= b(depth);
        }
        return value;
    }

    private boolean b(int depth) {
        if (skip("not")) {
            opens(depth);
            return !b(depth + 1);
        }
        if (skip("[")) {
            opens(depth);
            boolean value = c(depth + 1);
            need("]");
            return value;
        }
        long left = e(depth);
        String sign = peek();
        if (!sign.equals("<") && !sign.equals(">") && !sign.equals("=")) {
            throw new Wrong(places.get(at));
        }
        at++;
        long right = e(depth);
        return sign.equals("<") ? left < right : sign.equals(">") ? left > right : left == right;
    }

    private static long held(long value) {
        return value > 1000000 ? 1000000 : value < -1000000 ? -1000000 : value;
    }

    private long e(int depth) {
        long value = t(depth);
        while (true) {
            if (skip("+")) {
                value = held(value + t(depth));
            } else if (skip("-")) {
                value = held(value - t(depth));
            } else {
                return value;
            }
        }
    }

    private long t(int depth) {
        long value = f(depth);
        while (true) {
            if (skip("*")) {
                value = held(value * f(depth));
            } else if (skip("/")) {
                long by = f(depth);
                value = by == 0 ? 0 : value / by;
            } else {
                return value;
            }
        }
    }

    private long f(int depth) {
        if (skip("(")) {
            opens(depth);
            long value = e(depth + 1);
            need(")");
            return value;
        }
        String token = peek();
        if (token.matches("0*[0-9]{1,4}")) {
            at++;
            return Long.parseLong(token.replaceFirst("^0+(?=.)", ""));
        }
        if (token.matches("slope|speed|tick|sick|sea|wet|moved")) {
            at++;
            return ship == null ? 1 : ship.name(token);
        }
        throw new Wrong(places.get(at));
    }
}
