/** ==== 1. of the document, sentence by sentence: SLICES, WEIGHTS, TANKS, the LEVEL, the ARM and RESTS at their edges. */
public final class HullEdgesTest {
    private static final int NONE = ShipSways.NONE;
    private static final int VOID = ShipSways.VOID;
    private static final int MAX = Integer.MAX_VALUE;
    private static final int MIN = Integer.MIN_VALUE;

    private HullEdgesTest() {
    }

    public static void main(String[] args) {
        newObject();
        slicesHaveRoom();
        lengths();
        halves();
        boxes();
        weightsHaveRoom();
        masses();
        weightPlaces();
        weightMarks();
        lost();
        tanksHaveRoom();
        tankBounds();
        tankHas();
        waterRuns();
        heavy();
        wetAtJust();
        lowestAndHighestLevel();
        leastLevel();
        noLevel();
        at();
        armRoundsDown();
        restsAtTheEnds();
        restsAtZero();
        restCounts();
        Due.end();
    }

    /** Carries all of any load: 180 BOXES of LENGTH 20. */
    private static ShipSways ark() {
        ShipSways x = new ShipSways();
        Due.is("slice(20, 99999, 99999)", 0, x.slice(20, 99999, 99999));
        return x;
    }

    private static void newObject() {
        Due.of("Promise 1: No hull, no sea; NOW is 0");
        ShipSways x = new ShipSways();
        for (int what = 0; what <= 12; what++) {
            Due.is("count(" + what + ")", 0, x.count(what));
        }
        for (int slope = -80; slope <= 80; slope += 40) {
            Due.is("at(" + slope + ", 0)", VOID, x.at(slope, 0));
        }
        for (int tick = 0; tick < 600; tick += 599) {
            Due.is("sea(" + tick + ")", 0, x.sea(tick));
        }
        for (int k = 0; k < 4; k++) {
            Due.is("lead(" + k + ")", 0, x.lead(k));
            Due.is("read(" + k + ")", k == 0 ? NONE : 0, x.read(k));
        }
        Due.is("rest(0)", VOID, x.rest(0));
        Due.is("stays(0)", NONE, x.stays(0));
        Due.is("kept(0, 0)", VOID, x.kept(0, 0));
        Due.is("fault()", NONE, x.fault());
        Due.is("holds(0)", 1, x.holds(0));
        Due.is("holds(1)", 1, x.holds(1));
        for (int what = 0; what <= 2; what++) {
            Due.is("tried(0, " + what + ")", 0, x.tried(0, what));
            // The first TICK makes it OVER at once.
            Due.is("tried(120, " + what + ")", 0, x.tried(120, what));
        }
        Due.is("still(0)", 0, x.still(0));
        Due.is("still(120)", 0, x.still(120));
        Due.is("best(0, NONE)", 0, x.best(0, NONE));
        Due.is("clear()", 0, x.clear());
        Due.is("begin(4)", 0, x.begin(4));
        Due.yes("end(0)", x.end(0));
        Due.yes("rules()", x.rules());
        Due.is("go(0)", 0, x.go(0));
        Due.is("it isn't OVER yet", 0, x.count(9));
        Due.is("go(1)", 1, x.go(1));
        Due.is("it is OVER", 1, x.count(9));
    }

    private static void slicesHaveRoom() {
        Due.of("SLICES have numbers as they come, at most 6");
        ShipSways x = new ShipSways();
        x.weight(1, 0, 0, NONE);
        for (int i = 0; i < 6; i++) {
            Due.is("refused between", NONE, x.slice(0, 10000, 0));
            Due.is("slice " + i, i, x.slice(1, 10000, 0));
            Due.is("SLICES", i + 1, x.count(1));
            Due.is("PUSH", 2 * (i + 1), x.at(0, 1));
        }
        Due.is("a seventh", NONE, x.slice(1, 10000, 0));
        Due.is("SLICES", 6, x.count(1));
        Due.is("PUSH", 12, x.at(0, 1));
    }

    private static void lengths() {
        Due.of("a LENGTH (1 .. 20)");
        for (int length : new int[] {MIN, -1, 0, 1, 20, 21, MAX}) {
            ShipSways x = new ShipSways();
            x.weight(1, 0, 0, NONE);
            boolean right = length == 1 || length == 20;
            Due.is("slice(" + length + ", 10000, 0)", right ? 0 : NONE, x.slice(length, 10000, 0));
            Due.is("PUSH of LENGTH " + length, right ? 2 * length : VOID, x.at(0, 1));
            Due.is("SLICES", right ? 1 : 0, x.count(1));
        }
    }

    private static void halves() {
        Due.of("for each HEIGHT 0 .. 9 a HALF (0 .. 9); a digit each, that of 0 the highest");
        int[] places = {10000, 1000, 100, 10, 1};
        for (int z = 0; z < 10; z++) {
            for (int half = 0; half <= 9; half += 3) {
                ShipSways x = new ShipSways();
                x.weight(1, 0, 0, NONE);
                int digits = half * places[z % 5];
                Due.is("slice", 0, z < 5 ? x.slice(1, digits, 0) : x.slice(1, 0, digits));
                Due.is("LEVEL at HEIGHT " + z, half == 0 ? VOID : 100 * (2 * z + 1), x.at(0, 0));
                Due.is("PUSH at HEIGHT " + z, half == 0 ? VOID : 2 * half, x.at(0, 1));
            }
        }
        ShipSways x = new ShipSways();
        for (int digits : new int[] {MIN, -1, 100000, MAX}) {
            Due.is("low " + digits, NONE, x.slice(1, digits, 11111));
            Due.is("up " + digits, NONE, x.slice(1, 11111, digits));
        }
        Due.is("none came", 0, x.count(1));
        Due.is("all 9", 0, x.slice(1, 99999, 99999));
        x.weight(179, 0, 0, NONE);
        Due.is("180 BOXES", 180, x.at(0, 1));
        Due.is("all 0", 1, x.slice(20, 0, 0));
        Due.is("180 BOXES", 180, x.at(0, 1));
    }

    private static void boxes() {
        Due.of("BOXES at x = - HALF .. HALF - 1. Their middles are at 2 x + 1 and 2 z + 1");
        for (int half = 1; half <= 9; half++) {
            ShipSways x = new ShipSways();
            x.slice(1, half, 0);
            x.weight(1, 0, 0, NONE);
            int last = 2 * half - 1;
            Due.is("the outermost first", 900 - 80 * last, x.at(80, 0));
            Due.is("at the other side", 900 - 80 * last, x.at(-80, 0));
            Due.is("one alone", 1, x.at(80, 1));
            Due.is("its ARM", 100 * last + 80 * 9, x.at(80, 2));
            Due.is("its ARM at the other side", -100 * last - 80 * 9, x.at(-80, 2));
            x.weight(2 * half - 1, 0, 0, NONE);
            Due.is("up to the other end", 900 + 80 * last, x.at(80, 0));
            Due.is("all are WET", 2 * half, x.at(80, 1));
        }
    }

    private static void weightsHaveRoom() {
        Due.of("WEIGHTS have numbers as they come, at most 12");
        ShipSways x = new ShipSways();
        for (int i = 0; i < 12; i++) {
            Due.is("refused between", NONE, x.weight(0, 0, 0, NONE));
            Due.is("weight " + i, i, x.weight(i + 1, i, 0, NONE));
            Due.is("WEIGHTS", i + 1, x.count(2));
        }
        Due.is("a thirteenth", NONE, x.weight(1, 0, 0, NONE));
        Due.is("WEIGHTS", 12, x.count(2));
        Due.is("HEAVY", 78, x.count(12));
        Due.is("the last one's place", 11, x.place(11));
        Due.of("its number isn't given again");
        Due.yes("lose(11)", x.lose(11));
        Due.yes("lose(0)", x.lose(0));
        Due.is("12 came", NONE, x.weight(1, 0, 0, NONE));
        Due.is("WEIGHTS that came", 12, x.count(2));
        Due.is("HEAVY", 65, x.count(12));
    }

    private static void masses() {
        Due.of("a MASS (1 .. 500)");
        for (int mass : new int[] {MIN, -1, 0, 1, 500, 501, MAX}) {
            ShipSways x = ark();
            boolean right = mass == 1 || mass == 500;
            Due.is("weight(" + mass + ", ..)", right ? 0 : NONE, x.weight(mass, 0, 0, NONE));
            Due.is("HEAVY", right ? mass : 0, x.count(12));
            Due.is("WEIGHTS", right ? 1 : 0, x.count(2));
        }
    }

    private static void weightPlaces() {
        Due.of("a place (-19 .. 19), a height (0 .. 40)");
        for (int place : new int[] {MIN, -20, -19, 19, 20, MAX}) {
            ShipSways x = ark();
            boolean right = place == -19 || place == 19;
            Due.is("place " + place, right ? 0 : NONE, x.weight(10, place, 0, NONE));
            Due.is("place(0)", right ? place : VOID, x.place(0));
            Due.is("ARM", right ? -1000 * place : VOID, x.at(0, 2));
        }
        int low = 0;
        for (int height : new int[] {0, 40, MIN, -1, 41, MAX}) {
            ShipSways x = ark();
            boolean right = height == 0 || height == 40;
            Due.is("height " + height, right ? 0 : NONE, x.weight(10, 0, height, NONE));
            low = height == 0 ? x.at(50, 2) : low;
            Due.is("ARM", right ? low - 10 * 50 * height : VOID, x.at(50, 2));
        }
    }

    private static void weightMarks() {
        Due.of("a MARK: NONE if it is fixed; else (0 .. 80) it is LOOSE");
        ShipSways x = ark();
        for (int mark : new int[] {MIN, -2, 81, MAX}) {
            Due.is("MARK " + mark, NONE, x.weight(1, 0, 0, mark));
        }
        Due.is("none came", 0, x.count(2));
        for (int mark : new int[] {NONE, 0, 80}) {
            Due.is("MARK " + mark, mark == NONE ? 0 : mark == 0 ? 1 : 2, x.weight(1, 0, 0, mark));
        }
    }

    private static void lost() {
        Due.of("lose: false if there is none such; place: VOID if there is none such");
        ShipSways x = ark();
        Due.no("lose(0) of none", x.lose(0));
        Due.is("place(0) of none", VOID, x.place(0));
        for (int i = 0; i < 3; i++) {
            x.weight(10, i, 0, NONE);
        }
        for (int number : new int[] {MIN, -1, 3, 11, 12, MAX}) {
            Due.no("lose(" + number + ")", x.lose(number));
            Due.is("place(" + number + ")", VOID, x.place(number));
        }
        Due.is("HEAVY", 30, x.count(12));
        Due.yes("lose(2), the last", x.lose(2));
        Due.yes("lose(0), the first", x.lose(0));
        Due.no("lose(0) again", x.lose(0));
        Due.no("lose(2) again", x.lose(2));
        Due.is("place(0)", VOID, x.place(0));
        Due.is("place(1)", 1, x.place(1));
        Due.is("place(2)", VOID, x.place(2));
        Due.is("HEAVY", 10, x.count(12));
        Due.is("WEIGHTS that came", 3, x.count(2));
    }

    private static void tanksHaveRoom() {
        Due.of("TANKS have numbers likewise, at most 4");
        ShipSways x = ark();
        for (int i = 0; i < 4; i++) {
            Due.is("refused between", NONE, x.tank(0, 0, 1));
            Due.no("fill(" + i + ", 0) ahead of it", x.fill(i, 0));
            Due.is("tank " + i, i, x.tank(1, 0, 1));
            Due.yes("fill(" + i + ", 1)", x.fill(i, 1));
            Due.is("TANKS", i + 1, x.count(3));
        }
        Due.is("a fifth", NONE, x.tank(1, 0, 1));
        Due.is("TANKS", 4, x.count(3));
        Due.no("fill(4, 0)", x.fill(4, 0));
        Due.is("HEAVY", 4, x.count(12));
    }

    private static void tankBounds() {
        Due.of("WIDE (1 .. 9), a height, how much they HOLD (1 .. 300)");
        ShipSways x = ark();
        for (int wide : new int[] {MIN, -1, 0, 10, MAX}) {
            Due.is("WIDE " + wide, NONE, x.tank(wide, 0, 1));
        }
        for (int height : new int[] {MIN, -1, 41, MAX}) {
            Due.is("height " + height, NONE, x.tank(1, height, 1));
        }
        for (int holds : new int[] {MIN, -1, 0, 301, MAX}) {
            Due.is("HOLDS " + holds, NONE, x.tank(1, 0, holds));
        }
        Due.is("none came", 0, x.count(3));
        Due.is("the least", 0, x.tank(1, 0, 1));
        Due.is("the greatest", 1, x.tank(9, 40, 300));
        Due.yes("full", x.fill(1, 300));
        int armOfFull = x.at(10, 2);
        ShipSways y = ark();
        y.weight(300, 0, 40, NONE);
        Due.is("at its height", y.at(10, 2), armOfFull);
    }

    private static void tankHas() {
        Due.of("and have (0 at first, up to that); fill: false if there is none such, or it can't be");
        ShipSways x = ark();
        for (int number : new int[] {MIN, -1, 0, 3, 4, MAX}) {
            Due.no("fill(" + number + ", 0) of none", x.fill(number, 0));
        }
        x.tank(1, 0, 1);
        x.tank(9, 40, 300);
        Due.is("0 at first", 0, x.count(12));
        Due.is("no LEVEL", VOID, x.at(0, 0));
        for (int number : new int[] {MIN, -1, 2, MAX}) {
            Due.no("fill(" + number + ", 0)", x.fill(number, 0));
        }
        for (int has : new int[] {MIN, -1, 2, 300, MAX}) {
            Due.no("fill(0, " + has + ")", x.fill(0, has));
        }
        for (int has : new int[] {MIN, -1, 301, MAX}) {
            Due.no("fill(1, " + has + ")", x.fill(1, has));
        }
        Due.is("HEAVY", 0, x.count(12));
        Due.yes("fill(0, 0)", x.fill(0, 0));
        Due.yes("fill(0, 1)", x.fill(0, 1));
        Due.yes("fill(1, 300)", x.fill(1, 300));
        Due.is("HEAVY", 301, x.count(12));
        Due.yes("not more, but so much", x.fill(1, 299));
        Due.is("HEAVY", 300, x.count(12));
        Due.yes("empty again", x.fill(1, 0));
        Due.is("HEAVY", 1, x.count(12));
    }

    /** How far the water of a TANK has run at a SLOPE, seen by the ARM of the same MASS at 0. */
    private static int runs(int wide, int holds, int has, int slope) {
        ShipSways x = ark();
        x.tank(wide, 0, holds);
        x.fill(0, has);
        ShipSways y = ark();
        y.weight(has, 0, 0, NONE);
        int by = y.at(slope, 2) - x.at(slope, 2);
        Due.is("runs by whole places", 0, by % (100 * has));
        return by / (100 * has);
    }

    private static void waterRuns() {
        Due.of("A TANK's water is at the place s times WIDE by 100 (cut), if it has some and isn't full, else at 0");
        int[][] rows = {
            {9, 80, 7}, {9, -80, -7}, {1, 80, 0}, {1, -80, 0}, {2, 50, 1}, {2, 49, 0}, {2, -50, -1}, {2, -49, 0},
            {9, 12, 1}, {9, 11, 0}, {9, -12, -1}, {9, -11, 0}, {9, 0, 0}, {5, 79, 3}, {5, 80, 4}, {5, -79, -3}, {5, -80, -4}
        };
        for (int[] r : rows) {
            Due.is("WIDE " + r[0] + " at " + r[1], r[2], runs(r[0], 300, 100, r[1]));
        }
        Due.is("has 1 of 300", 7, runs(9, 300, 1, 80));
        Due.is("has 299 of 300", 7, runs(9, 300, 299, 80));
        Due.is("full", 0, runs(9, 300, 300, 80));
        Due.is("full at the other side", 0, runs(9, 300, 300, -80));
        Due.is("has 1 of 2", 7, runs(9, 2, 1, 80));
        Due.is("has 1 of 1", 0, runs(9, 1, 1, 80));
        ShipSways x = ark();
        x.weight(100, 0, 0, NONE);
        int without = x.at(80, 2);
        x.tank(9, 40, 300);
        Due.is("an empty one", without, x.at(80, 2));
        Due.yes("fill(0, 0)", x.fill(0, 0));
        Due.is("an empty one", without, x.at(80, 2));
    }

    private static void heavy() {
        Due.of("HEAVY is all MASSES and what TANKS have");
        ShipSways x = new ShipSways();
        for (int i = 0; i < 6; i++) {
            x.slice(20, 99999, 99999);
        }
        Due.is("none", 0, x.count(12));
        for (int i = 0; i < 12; i++) {
            x.weight(500, 19, 40, NONE);
        }
        for (int i = 0; i < 4; i++) {
            x.tank(9, 40, 300);
            x.fill(i, 300);
        }
        Due.is("all", 7200, x.count(12));
        // 6 times 20 times 18 BOXES are WET a row.
        Due.is("LEVEL", 700, x.at(0, 0));
        Due.is("PUSH", 4 * 2160, x.at(0, 1));
        Due.is("ARM", -12 * 500 * 1900, x.at(0, 2));
        Plain p = new Plain();
        for (int i = 0; i < 6; i++) {
            p.slice(20, 99999, 99999);
        }
        for (int i = 0; i < 12; i++) {
            p.weight(500, 19, 40, NONE);
        }
        for (int i = 0; i < 4; i++) {
            p.tank(9, 40, 300);
            p.fill(i, 300);
        }
        for (int slope : new int[] {-80, -79, 79, 80}) {
            for (int what = 0; what <= 2; what++) {
                Due.is("the greatest at " + slope, p.at(slope, what), x.at(slope, what));
            }
        }
    }

    private static void wetAtJust() {
        Due.of("a BOX is WET, if 100 times its height is not above l and s times its place");
        ShipSways x = new ShipSways();
        x.slice(1, 1, 10000);
        // BOXES at -1 and 1, and at the heights 9 and 11: each needs 100 times its height less s times its place.
        x.weight(1, 0, 0, NONE);
        Due.is("LEVEL for one", 899, x.at(1, 0));
        Due.is("one", 1, x.at(1, 1));
        x.weight(1, 0, 0, NONE);
        Due.is("LEVEL for two", 901, x.at(1, 0));
        x.weight(1, 0, 0, NONE);
        Due.is("LEVEL for three", 1099, x.at(1, 0));
        x.weight(1, 0, 0, NONE);
        Due.is("LEVEL for four", 1101, x.at(-1, 0));
        Due.is("four", 4, x.at(-1, 1));
        // A MARK likewise: upright the LEVEL is 1100.
        ShipSways y = new ShipSways();
        y.slice(1, 1, 10000);
        y.weight(4, 0, 0, NONE);
        y.mark(0, 11);
        y.mark(0, 12);
        Due.is("LEVEL", 1100, y.at(0, 0));
        y.go(1);
        Due.is("SLOPE", 0, y.kept(0, 0));
        Due.is("just at it", 1, y.wetted(0));
        Due.is("above it", 0, y.wetted(1));
    }

    private static void lowestAndHighestLevel() {
        Due.of("The LEVEL at s is the least of -2000 .. 4000 at which PUSH isn't below HEAVY");
        ShipSways x = new ShipSways();
        x.slice(20, 90000, 0);
        x.weight(20, 0, 0, NONE);
        Due.is("the lowest", 100 - 80 * 17, x.at(80, 0));
        Due.is("the lowest", 100 - 80 * 17, x.at(-80, 0));
        Due.is("PUSH of one", 20, x.at(80, 1));
        ShipSways y = new ShipSways();
        y.slice(1, 0, 9);
        y.weight(18, 0, 0, NONE);
        Due.is("the highest", 1900 + 80 * 17, y.at(80, 0));
        Due.is("the highest", 1900 + 80 * 17, y.at(-80, 0));
        Due.is("PUSH of all", 18, y.at(-80, 1));
    }

    private static void leastLevel() {
        Due.of("at which PUSH isn't below HEAVY");
        ShipSways x = new ShipSways();
        x.slice(3, 12345, 0);
        int[][] rows = {{6, 100, 6}, {1, 300, 18}, {11, 300, 18}, {1, 500, 36}, {17, 500, 36}, {1, 700, 60}};
        for (int[] r : rows) {
            x.weight(r[0], 0, 0, NONE);
            Due.is("LEVEL of " + x.count(12), r[1], x.at(0, 0));
            Due.is("PUSH of " + x.count(12), r[2], x.at(0, 1));
        }
    }

    private static void noLevel() {
        Due.of("without any, or with HEAVY 0, there is none");
        ShipSways x = new ShipSways();
        x.slice(5, 11111, 11111);
        for (int slope : new int[] {-80, -1, 0, 1, 80}) {
            Due.is("HEAVY 0 at " + slope, VOID, x.at(slope, 0));
        }
        x.weight(100, 0, 0, NONE);
        for (int slope : new int[] {-80, -1, 0, 1, 80}) {
            Due.is("just carried at " + slope, 100, x.at(slope, 1));
        }
        x.weight(1, 0, 0, NONE);
        for (int slope : new int[] {-80, -1, 0, 1, 80}) {
            for (int what = 0; what <= 2; what++) {
                Due.is("too heavy at " + slope, VOID, x.at(slope, what));
            }
        }
        Due.is("no REST", VOID, x.rest(0));
        Due.is("no REST", NONE, x.stays(0));
        x.lose(1);
        Due.is("carried again", 100, x.at(0, 1));
        x.lose(0);
        Due.is("HEAVY 0 again", VOID, x.at(0, 0));
        x.tank(1, 0, 300);
        x.fill(0, 100);
        Due.is("water alone", 100, x.at(0, 1));
        x.fill(0, 101);
        Due.is("too much water", VOID, x.at(0, 1));
        x.fill(0, 0);
        Due.is("no water", VOID, x.at(0, 1));
        ShipSways y = new ShipSways();
        y.weight(1, 0, 0, NONE);
        Due.is("no hull", VOID, y.at(0, 0));
        y.slice(20, 0, 0);
        Due.is("no BOX", VOID, y.at(0, 0));
        y.slice(1, 0, 1);
        Due.is("two BOXES", 2, y.at(0, 1));
    }

    private static void at() {
        Due.of("VOID for others, another SLOPE, or without a LEVEL");
        ShipSways x = new ShipSways();
        x.slice(10, 55555, 0);
        x.weight(200, 0, 1, NONE);
        for (int what = 0; what <= 2; what++) {
            for (int slope : new int[] {MIN, -81, 81, MAX}) {
                Due.is("at(" + slope + ", " + what + ")", VOID, x.at(slope, what));
            }
        }
        for (int slope : new int[] {-80, 0, 80}) {
            for (int what : new int[] {MIN, -1, 3, MAX}) {
                Due.is("at(" + slope + ", " + what + ")", VOID, x.at(slope, what));
            }
        }
        // 20 BOXES must be WET; the 20th needs 340, at the place -3 low down, and so does a 21st high up at 7.
        for (int slope : new int[] {-80, 80}) {
            Due.is("at(" + slope + ", 0)", 340, x.at(slope, 0));
            Due.is("at(" + slope + ", 1)", 210, x.at(slope, 1));
            Due.yes("at(" + slope + ", 2)", x.at(slope, 2) != VOID);
        }
    }

    private static void armRoundsDown() {
        Due.of("times HEAVY by PUSH (rounded down, also below 0)");
        ShipSways y = new ShipSways();
        y.slice(3, 10000, 0);
        y.slice(4, 1000, 0);
        y.weight(7, 0, 0, NONE);
        // At 1: 3 times 101 and 3 times -99 (the lowest row), and the BOX at 1 of the next: 4 times 103; 7 by 10.
        int sum = 3 * 101 - 3 * 99 + 4 * 103;
        Due.is("PUSH", 10, y.at(1, 1));
        Due.is("ARM cut above 0", sum * 7 / 10, y.at(1, 2));
        Due.yes("it isn't whole", sum * 7 % 10 != 0);
        Due.is("ARM down below 0", -(sum * 7 / 10) - 1, y.at(-1, 2));
    }

    private static void restsAtTheEnds() {
        Due.of("A REST lies between s and s + 1 (s from -80 to 79)");
        int[][] rows = {
            {2, 21000, 3, 6, 2, 5, 3, 0, -80, 12, -6, 0}, {1, 10000, 3, 5, -14, 3, 2, 0, -80, -60, 22, 1},
            {2, 3000, 2, 1, -16, 2, 2, 1, -80, 0, 5, 1}, {2, 11000, 2, 2, -5, 1, 3, 7, 79, 8, -7, 0},
            {3, 32000, 3, 4, 3, 2, 1, 7, 79, 10, 0, 0}, {1, 1000, 3, 6, 10, 5, 1, 2, 79, -49, 20, 1},
            {2, 22000, 3, 6, 3, 0, 1, 1, 79, 0, 10, 1}, {10, 41642, 22649, 33, 6, 3, 70, 16, -80, 1, -890, 0},
            {5, 44389, 2531, 73, -15, 0, 70, 6, -80, 1, 316, NONE}, {3, 0, 3, 5, -17, 8, 2, 6, -80, -80, 1, 1},
            {2, 43000, 3, 3, 6, 4, 4, 5, 79, 1, -20, 0}, {1, 3000, 3, 4, 5, 3, 3, 2, 79, 1, 20, NONE}
        };
        for (int[] row : rows) {
            restOf(row);
        }
    }

    private static void restsAtZero() {
        Due.of("the ARM at s is 0 or below and at s + 1 above 0 (it STAYS), or above 0 and then 0 or below (it FALLS)");
        int[][] rows = {
            {2, 12000, 0, 4, 2, 0, 1, 0, 35, -9, 0, NONE}, {2, 12000, 0, 4, 2, 0, 1, 0, 36, 0, 8, 1},
            {3, 31000, 0, 5, 3, 3, 2, 2, 49, 12, 0, 0}, {3, 31000, 0, 5, 3, 3, 2, 2, 50, 0, -12, NONE},
            {3, 23000, 3, 4, 6, 3, 2, 0, 51, 0, 0, NONE}, {2, 11000, 2, 7, -1, 7, 4, 9, -52, 1, 0, 0},
            {4, 1000, 0, 6, 0, 3, 1, 2, 0, 0, 1, 1}, {2, 21000, 3, 8, 0, 0, 3, 6, 3, 1, 1, NONE},
            {1, 24000, 3, 6, 3, 1, 3, 2, 42, -6, 1, 1}, {4, 23000, 3, 5, 0, 4, 4, 5, 29, 1, -30, 0}
        };
        for (int[] row : rows) {
            restOf(row);
        }
    }

    private static ShipSways laden(int[] row) {
        ShipSways x = new ShipSways();
        x.slice(row[0], row[1], row[2]);
        x.weight(row[3], row[4], row[5], NONE);
        x.weight(row[6], 0, row[7], NONE);
        return x;
    }

    /** A SLICE, two WEIGHTS, an s, the ARMS at s and s + 1, and 1 or 0 for a REST there, NONE for none. */
    private static void restOf(int[] row) {
        int s = row[8];
        Due.is("ARM at " + s, row[9], laden(row).at(s, 2));
        Due.is("ARM at " + (s + 1), row[10], laden(row).at(s + 1, 2));
        // A ship that wasn't asked for anything else ahead of it.
        ShipSways x = laden(row);
        int kind = NONE;
        int k = 0;
        while (k < 160 && x.rest(k) != VOID) {
            kind = x.rest(k) == s ? laden(row).stays(k) : kind;
            k++;
        }
        Due.is("REST at " + s, row[11], kind);
        Due.is("behind the last", NONE, x.stays(k));
        if ((s == -80 || s == 79) && kind != NONE) {
            Due.is("the outermost", s, x.rest(s < 0 ? 0 : k - 1));
        }
    }

    private static void restCounts() {
        Due.of("The k-th REST (from 0 on, by s); VOID if there are not so many, or k is below 0");
        ShipSways x = new ShipSways();
        x.slice(10, 22222, 22222);
        x.weight(60, 0, 4, NONE);
        int[] rests = new int[5];
        for (int k = 0; k < 5; k++) {
            rests[k] = x.rest(k);
            Due.yes("by s", k == 0 || rests[k] > rests[k - 1]);
            Due.is("in turn", k % 2 == 0 ? 1 : 0, x.stays(k));
        }
        for (int k : new int[] {MIN, -1, 5, 159, 160, MAX}) {
            Due.is("rest(" + k + ")", VOID, x.rest(k));
            Due.is("stays(" + k + ")", NONE, x.stays(k));
        }
    }
}
