/** Puts a text into a ship in place of the one it has. */
final class Texts {
    private Texts() {
    }

    static void put(ShipSways ship, String text) {
        Due.yes("end(0)", ship.end(0));
        for (int from = 0; from < text.length(); from += 20) {
            ship.feed(four(text, from), four(text, from + 4), four(text, from + 8),
                four(text, from + 12), four(text, from + 16));
        }
        Due.yes("end(" + text.length() + ")", ship.end(text.length()));
    }

    static int four(String text, int from) {
        int number = 0;
        for (int i = from; i < from + 4; i++) {
            number = number << 8 | (i < text.length() ? text.charAt(i) & 255 : 32);
        }
        return number;
    }

    /** The FAULT of a text. */
    static int fault(ShipSways ship, String text) {
        put(ship, text);
        return ship.fault();
    }

    static void rule(ShipSways ship, String text) {
        put(ship, text);
        Due.yes("rules() of " + text, ship.rules());
    }
}
