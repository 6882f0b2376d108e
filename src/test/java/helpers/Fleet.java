/** Ships in the states that tests begin from; each can be made as a ShipSways and as a Plain. */
final class Fleet {
    static final String[] STATES = {"bare", "barge", "underWay", "wordy", "full", "over", "sunk", "spent"};
    /** What every TANK of these ships holds. */
    static final int HOLDS = 30;
    /** The one WEIGHT that a ship under way, or a full one, has lost. */
    static final int LOST = 2;

    private Fleet() {
    }

    static ShipSways ship(String state) {
        ShipSways ship = new ShipSways();
        bring(ship, state);
        return ship;
    }

    static Plain plain(String state) {
        Plain plain = new Plain();
        bring(plain, state);
        return plain;
    }

    private static void bring(Object ship, String state) {
        switch (state) {
            case "barge":
                barge(ship);
                break;
            case "underWay":
                underWay(ship);
                break;
            case "wordy":
                wordy(ship);
                break;
            case "full":
                full(ship);
                break;
            case "over":
                over(ship);
                break;
            case "sunk":
                sunk(ship);
                break;
            case "spent":
                spent(ship);
                break;
            default:
                break;
        }
    }

    private static void barge(Object ship) {
        Calls.make(ship, "slice", 10, 55555, 0);
        Calls.make(ship, "weight", 200, 0, 1, -1);
    }

    private static void underWay(Object ship) {
        Calls.make(ship, "slice", 10, 66777, 88888);
        Calls.make(ship, "slice", 5, 45678, 99999);
        Calls.make(ship, "weight", 300, 0, 2, -1);
        Calls.make(ship, "weight", 12, 4, 9, 1);
        Calls.make(ship, "weight", 9, -6, 12, 2);
        Calls.make(ship, "weight", 7, -3, 6, 0);
        Calls.make(ship, "lose", LOST);
        Calls.make(ship, "tank", 6, 2, HOLDS);
        Calls.make(ship, "tank", 9, 5, HOLDS);
        Calls.make(ship, "fill", 0, 20);
        Calls.make(ship, "fill", 1, HOLDS);
        Calls.make(ship, "mark", 9, 4);
        Calls.make(ship, "mark", -9, 4);
        Calls.make(ship, "mark", 0, 3);
        Calls.make(ship, "wave", 20, 19, 3);
        Calls.make(ship, "wave", 22, 31, 12);
        Calls.make(ship, "set", 0, 3000);
        Calls.make(ship, "set", 1, 9);
        Calls.make(ship, "set", 2, 3);
        Calls.make(ship, "set", 3, 2);
        put(ship, "work sick<4 or slope<3; fin speed>1 or wet>1;");
        Calls.make(ship, "rules");
        Calls.make(ship, "begin", 14);
        Calls.make(ship, "hour", 10, 16);
        Calls.make(ship, "hour", 20, 18);
        Calls.make(ship, "hour", 30, 13);
        for (int number : new int[] {5, -3, 0, 40, -77}) {
            Calls.make(ship, "record", number);
        }
        Calls.make(ship, "go", 20);
        put(ship, "fin slope = ");
    }

    private static void wordy(Object ship) {
        barge(ship);
        Calls.make(ship, "mark", 2, 3);
        Calls.make(ship, "wave", 14, 20, 0);
        put(ship, "work " + "slope=1 or ".repeat(26) + "speed > 1");
        Calls.make(ship, "go", 5);
    }

    private static void full(Object ship) {
        for (int i = 0; i < 6; i++) {
            Calls.make(ship, "slice", 5 + i, 77777 + 1111 * i, 88888);
            Calls.make(ship, "mark", 6 * i - 15, 2 * i);
        }
        for (int i = 0; i < 12; i++) {
            Calls.make(ship, "weight", 50 + i, i % 3 - 1, 2 + i % 2, i % 3 == 0 ? 3 : -1);
        }
        Calls.make(ship, "lose", LOST);
        for (int i = 0; i < 4; i++) {
            Calls.make(ship, "tank", 3 + i, i, HOLDS);
            Calls.make(ship, "fill", i, 10 * i);
        }
        for (int i = 0; i < 8; i++) {
            Calls.make(ship, "wave", 3 + i, 7 + 5 * i, 2 * i);
        }
        Calls.make(ship, "set", 0, 7000);
        Calls.make(ship, "set", 1, 8);
        Calls.make(ship, "set", 3, 1);
        for (int i = 0; i < 12; i++) {
            Calls.make(ship, "hour", 5 * i, 10 + i);
        }
        for (int i = 0; i < 64; i++) {
            Calls.make(ship, "record", (i * 37 + 80) % 161 - 80);
        }
        Calls.make(ship, "go", 50);
        put(ship, "work slope" + "+1".repeat(143) + ">7; ");
    }

    private static void over(Object ship) {
        barge(ship);
        Calls.make(ship, "weight", 5, 1, 1, 3);
        Calls.make(ship, "mark", 7, 4);
        Calls.make(ship, "wave", 60, 64, 4);
        Calls.make(ship, "set", 0, 9000);
        Calls.make(ship, "set", 2, 1);
        Calls.make(ship, "go", 12);
    }

    private static void sunk(Object ship) {
        barge(ship);
        Calls.make(ship, "mark", 0, 1);
        Calls.make(ship, "wave", 20, 64, 4);
        Calls.make(ship, "go", 2);
        Calls.make(ship, "weight", 500, 1, 1, 3);
        Calls.make(ship, "go", 3);
    }

    private static void spent(Object ship) {
        barge(ship);
        Calls.make(ship, "mark", 2, 3);
        Calls.make(ship, "wave", 4, 20, 0);
        Calls.make(ship, "set", 0, 2000);
        Calls.make(ship, "set", 1, 10);
        for (int i = 0; i < 6; i++) {
            Calls.make(ship, "go", 100);
        }
    }

    private static void put(Object ship, String text) {
        Calls.make(ship, "end", 0);
        for (int from = 0; from < text.length(); from += 20) {
            Calls.make(ship, "feed", Texts.four(text, from), Texts.four(text, from + 4), Texts.four(text, from + 8),
                Texts.four(text, from + 12), Texts.four(text, from + 16));
        }
        Calls.make(ship, "end", text.length());
    }
}
