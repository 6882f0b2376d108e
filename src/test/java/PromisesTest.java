/** Each promise by hand: what is ordinary, the edges that the document names, and what is refused. */
public final class PromisesTest {
    private static final int NONE = ShipSways.NONE;
    private static final int VOID = ShipSways.VOID;
    private static final int MAX = Integer.MAX_VALUE;
    private static final int MIN = Integer.MIN_VALUE;

    private PromisesTest() {
    }

    public static void main(String[] args) {
        newObject();
        slice();
        weight();
        lose();
        tank();
        fill();
        mark();
        at();
        restAndStays();
        wave();
        sea();
        set();
        go();
        slide();
        kept();
        lead();
        feedAndEnd();
        Due.end();
    }

    /** 10 boxes of LENGTH 10 at each of the HEIGHTS 0 .. 4, and 200 to carry: it floats upright. */
    private static ShipSways barge() {
        ShipSways x = new ShipSways();
        Due.is("slice(10, 55555, 0)", 0, x.slice(10, 55555, 0));
        Due.is("weight(200, 0, 1, NONE)", 0, x.weight(200, 0, 1, NONE));
        return x;
    }

    private static void newObject() {
        ShipSways x = new ShipSways();
        for (int what = 0; what <= 12; what++) {
            Due.is("new: count(" + what + ")", 0, x.count(what));
        }
        Due.is("new: at(0, 0)", VOID, x.at(0, 0));
        Due.is("new: sea(0)", 0, x.sea(0));
        Due.is("new: sea(599)", 0, x.sea(599));
        Due.is("new: kept(0, 0)", VOID, x.kept(0, 0));
        Due.is("new: holds(0)", 1, x.holds(0));
        Due.is("new: holds(1)", 1, x.holds(1));
        Due.is("new: fault()", NONE, x.fault());
        Due.is("new: go(1)", 1, x.go(1));
        Due.is("new: without a LEVEL it is OVER", 1, x.count(9));
    }

    private static void slice() {
        ShipSways x = new ShipSways();
        int[][] wrong = {
            {0, 0, 0}, {21, 0, 0}, {-1, 0, 0}, {1, -1, 0}, {1, 100000, 0}, {1, 0, -1}, {1, 0, 100000},
            {MAX, 0, 0}, {MIN, 0, 0}, {1, MIN, 0}, {1, 0, MAX}
        };
        for (int[] w : wrong) {
            Due.is("slice refused", NONE, x.slice(w[0], w[1], w[2]));
        }
        Due.is("none came", 0, x.count(1));
        Due.is("slice(1, 0, 0)", 0, x.slice(1, 0, 0));
        Due.is("weight", 0, x.weight(1, 0, 0, NONE));
        Due.is("no BOX, no LEVEL", VOID, x.at(0, 0));
        // HEIGHT 0 is the highest digit of low: two boxes at 1; HEIGHT 9 the lowest of up: four at 19.
        Due.is("slice(3, 10000, 2)", 1, x.slice(3, 10000, 2));
        Due.is("LEVEL of HEIGHT 0", 100, x.at(0, 0));
        Due.is("PUSH of HEIGHT 0", 6, x.at(0, 1));
        Due.is("weight", 1, x.weight(6, 0, 0, NONE));
        Due.is("LEVEL of HEIGHT 9", 1900, x.at(0, 0));
        Due.is("PUSH of all", 18, x.at(0, 1));
        Due.is("slice(20, 99999, 99999)", 2, x.slice(20, 99999, 99999));
        Due.is("more PUSH low", 366, x.at(0, 1));
        Due.is("slice(1, 1, 10000)", 3, x.slice(1, 1, 10000));
        Due.is("fifth", 4, x.slice(1, 1, 1));
        Due.is("sixth", 5, x.slice(1, 1, 1));
        Due.is("seventh", NONE, x.slice(1, 1, 1));
        Due.is("six came", 6, x.count(1));
        digits();
    }

    private static void digits() {
        ShipSways x = new ShipSways();
        x.slice(1, 12345, 67890);
        int sum = 0;
        for (int z = 0; z < 10; z++) {
            int half = (z + 1) % 10;
            ShipSways y = new ShipSways();
            y.slice(1, 12345, 67890);
            y.weight(sum + 1, 0, 0, NONE);
            sum += 2 * half;
            Due.is("LEVEL at HEIGHT " + z, half == 0 ? VOID : 100 * (2 * z + 1), y.at(0, 0));
            Due.is("PUSH up to HEIGHT " + z, half == 0 ? VOID : sum, y.at(0, 1));
        }
        Due.is("nothing to carry", VOID, x.at(0, 0));
    }

    private static void weight() {
        ShipSways x = new ShipSways();
        int[][] wrong = {
            {0, 0, 0, -1}, {501, 0, 0, -1}, {1, -20, 0, -1}, {1, 20, 0, -1}, {1, 0, -1, -1}, {1, 0, 41, -1},
            {1, 0, 0, -2}, {1, 0, 0, 81}, {MIN, 0, 0, 0}, {1, MAX, 0, 0}, {1, 0, MIN, 0}, {1, 0, 0, MAX}
        };
        for (int[] w : wrong) {
            Due.is("weight refused", NONE, x.weight(w[0], w[1], w[2], w[3]));
        }
        Due.is("none came", 0, x.count(2));
        Due.is("weight(1, -19, 0, -1)", 0, x.weight(1, -19, 0, -1));
        Due.is("weight(500, 19, 40, 80)", 1, x.weight(500, 19, 40, 80));
        Due.is("weight(7, 3, 0, 0)", 2, x.weight(7, 3, 0, 0));
        Due.is("HEAVY", 508, x.count(12));
        Due.is("place(0)", -19, x.place(0));
        Due.is("place(1)", 19, x.place(1));
        Due.yes("lose(2)", x.lose(2));
        for (int i = 3; i < 12; i++) {
            Due.is("weight " + i, i, x.weight(1, 0, 0, NONE));
        }
        Due.is("a thirteenth", NONE, x.weight(1, 0, 0, NONE));
        Due.is("12 came", 12, x.count(2));
        Due.is("HEAVY", 510, x.count(12));
        Due.is("place(12)", VOID, x.place(12));
        Due.is("place(-1)", VOID, x.place(-1));
        Due.is("place(MAX)", VOID, x.place(MAX));
    }

    private static void lose() {
        ShipSways x = barge();
        Due.no("lose(-1)", x.lose(-1));
        Due.no("lose(1)", x.lose(1));
        Due.no("lose(MAX)", x.lose(MAX));
        Due.is("weight", 1, x.weight(50, 5, 0, NONE));
        int arm = x.at(10, 2);
        Due.yes("lose(1)", x.lose(1));
        Due.no("lose(1) again", x.lose(1));
        Due.is("place(1)", VOID, x.place(1));
        Due.is("HEAVY", 200, x.count(12));
        Due.is("WEIGHTS that came", 2, x.count(2));
        Due.is("the ARM without it", 2000, x.at(10, 2));
        Due.is("weight again", 2, x.weight(50, 5, 0, NONE));
        Due.is("the ARM with it", arm, x.at(10, 2));
        Due.yes("lose(0)", x.lose(0));
        Due.yes("lose(2)", x.lose(2));
        Due.is("HEAVY 0: no LEVEL", VOID, x.at(0, 0));
    }

    private static void tank() {
        ShipSways x = new ShipSways();
        int[][] wrong = {
            {0, 0, 1}, {10, 0, 1}, {1, -1, 1}, {1, 41, 1}, {1, 0, 0}, {1, 0, 301}, {MIN, 0, 1}, {1, MAX, 1}, {1, 0, MIN}
        };
        for (int[] w : wrong) {
            Due.is("tank refused", NONE, x.tank(w[0], w[1], w[2]));
        }
        Due.is("tank(1, 0, 1)", 0, x.tank(1, 0, 1));
        Due.is("tank(9, 40, 300)", 1, x.tank(9, 40, 300));
        Due.is("has nothing at first", 0, x.count(12));
        Due.is("third", 2, x.tank(5, 5, 5));
        Due.is("fourth", 3, x.tank(5, 5, 5));
        Due.is("fifth", NONE, x.tank(5, 5, 5));
        Due.is("4 came", 4, x.count(3));
    }

    private static void fill() {
        ShipSways x = barge();
        Due.no("fill(0, 0) without", x.fill(0, 0));
        Due.is("tank(9, 3, 40)", 0, x.tank(9, 3, 40));
        Due.no("fill(0, -1)", x.fill(0, -1));
        Due.no("fill(0, 41)", x.fill(0, 41));
        Due.no("fill(1, 0)", x.fill(1, 0));
        Due.no("fill(-1, 0)", x.fill(-1, 0));
        Due.no("fill(MIN, MAX)", x.fill(MIN, MAX));
        Due.is("HEAVY", 200, x.count(12));
        // The same MASS once as water that runs, once as a full tank and once fixed, to tell them apart.
        ShipSways fixed = barge();
        fixed.weight(40, 0, 3, NONE);
        ShipSways half = barge();
        half.weight(20, 0, 3, NONE);
        Due.yes("fill(0, 40)", x.fill(0, 40));
        Due.is("HEAVY", 240, x.count(12));
        Due.is("a full one lies still", fixed.at(50, 2), x.at(50, 2));
        Due.yes("fill(0, 20)", x.fill(0, 20));
        Due.is("HEAVY", 220, x.count(12));
        // 50 times 9 by 100 is 4 (cut): the water is at 4.
        Due.is("water runs", half.at(50, 2) - 20 * 100 * 4, x.at(50, 2));
        Due.is("and to the other side", half.at(-50, 2) + 20 * 100 * 4, x.at(-50, 2));
        Due.is("not yet at 11", half.at(11, 2), x.at(11, 2));
        Due.is("just at 12", half.at(12, 2) - 20 * 100, x.at(12, 2));
        Due.is("cut toward 0 below it", half.at(-11, 2), x.at(-11, 2));
        Due.yes("fill(0, 0)", x.fill(0, 0));
        Due.is("empty", 2000, x.at(10, 2));
    }

    private static void mark() {
        ShipSways x = new ShipSways();
        int[][] wrong = {{-20, 0}, {20, 0}, {0, -1}, {0, 41}, {MIN, 0}, {0, MAX}};
        for (int[] w : wrong) {
            Due.is("mark refused", NONE, x.mark(w[0], w[1]));
        }
        Due.is("mark(-19, 0)", 0, x.mark(-19, 0));
        Due.is("mark(19, 40)", 1, x.mark(19, 40));
        for (int i = 2; i < 6; i++) {
            Due.is("mark " + i, i, x.mark(0, 0));
        }
        Due.is("a seventh", NONE, x.mark(0, 0));
        Due.is("6 came", 6, x.count(5));
        Due.is("wetted(5)", 0, x.wetted(5));
        Due.is("wetted(6)", NONE, x.wetted(6));
        Due.is("wetted(-1)", NONE, x.wetted(-1));
    }

    private static void at() {
        ShipSways x = barge();
        Due.is("at(0, 0)", 300, x.at(0, 0));
        Due.is("at(10, 0)", 390, x.at(10, 0));
        Due.is("at(-10, 0)", 390, x.at(-10, 0));
        Due.is("at(80, 1) is there", 1, x.at(80, 1) >= 200 ? 1 : 0);
        Due.is("at(-80, 0) is there", 1, x.at(-80, 0) != VOID ? 1 : 0);
        Due.is("at(81, 0)", VOID, x.at(81, 0));
        Due.is("at(-81, 0)", VOID, x.at(-81, 0));
        Due.is("at(MIN, 0)", VOID, x.at(MIN, 0));
        Due.is("at(MAX, 0)", VOID, x.at(MAX, 0));
        Due.is("at(0, -1)", VOID, x.at(0, -1));
        Due.is("at(0, 3)", VOID, x.at(0, 3));
        // 101 of 200 is more than the lowest row: PUSH above HEAVY, the ARM by both.
        ShipSways y = new ShipSways();
        y.slice(10, 55555, 0);
        y.weight(101, 0, 1, NONE);
        Due.is("LEVEL", 300, y.at(0, 0));
        Due.is("PUSH", 200, y.at(0, 1));
        Due.is("ARM", 0, y.at(0, 2));
        // At 10 boxes sink one by one from the low side on: 11 are wet, ten of HEIGHT 0 and that at 9 of HEIGHT 1.
        Due.is("LEVEL", 210, y.at(10, 0));
        Due.is("PUSH", 110, y.at(10, 1));
        Due.is("ARM", Math.floorDiv((100 * 100 * 0 + 10 * 10 * 10 * 1 + 10 * (900 + 30)) * 101L, 110L) - 101 * 10, y.at(10, 2));
        Due.is("ARM rounded down below 0", Math.floorDiv(-(1000 + 9300) * 101L, 110L) + 1010, y.at(-10, 2));
        y.weight(400, 0, 0, NONE);
        Due.is("too heavy", VOID, y.at(0, 0));
        ShipSways z = new ShipSways();
        z.slice(10, 55555, 0);
        z.weight(500, 0, 0, NONE);
        Due.is("just carried", 900, z.at(0, 0));
        Due.is("just carried", 500, z.at(0, 1));
        z.weight(1, 0, 0, NONE);
        Due.is("no more", VOID, z.at(0, 1));
        // One BOX of LENGTH 1 alone, at the place 1 and the height 1: 100 and 5 times 1.
        ShipSways one = new ShipSways();
        one.slice(1, 10000, 0);
        one.weight(1, 0, 0, NONE);
        Due.is("LEVEL", 95, one.at(5, 0));
        Due.is("PUSH", 1, one.at(5, 1));
        Due.is("ARM", 105, one.at(5, 2));
        Due.is("ARM to the other side", -105, one.at(-5, 2));
    }

    private static void restAndStays() {
        ShipSways x = barge();
        Due.is("rest(0)", 0, x.rest(0));
        Due.is("stays(0)", 1, x.stays(0));
        Due.is("rest(1)", VOID, x.rest(1));
        Due.is("stays(1)", NONE, x.stays(1));
        Due.is("rest(-1)", VOID, x.rest(-1));
        Due.is("stays(-1)", NONE, x.stays(-1));
        Due.is("rest(MAX)", VOID, x.rest(MAX));
        Due.is("stays(MIN)", NONE, x.stays(MIN));
        // Narrow and high: it rests upright, falls beyond that, and rests again far over, at both sides.
        ShipSways y = new ShipSways();
        y.slice(10, 22222, 22222);
        y.weight(60, 0, 4, NONE);
        int k = 0;
        for (int s = -80; s < 80; s++) {
            boolean down = y.at(s, 2) > 0 && y.at(s + 1, 2) <= 0;
            boolean up = y.at(s, 2) <= 0 && y.at(s + 1, 2) > 0;
            if (down || up) {
                Due.is("rest(" + k + ")", s, y.rest(k));
                Due.is("stays(" + k + ")", up ? 1 : 0, y.stays(k));
                k++;
            }
        }
        Due.is("rests of both kinds", 5, k);
        Due.is("the least s first", -67, y.rest(0));
        Due.is("a falling one", 0, y.stays(1));
        Due.is("no more", VOID, y.rest(k));
        Due.is("no more", NONE, y.stays(k));
        y.lose(0);
        Due.is("without a LEVEL", VOID, y.rest(0));
        Due.is("without a LEVEL", NONE, y.stays(0));
        // ARMS of just 0 and 1: 1 is above 0, and 0 isn't.
        restsAsPlain(new int[] {2, 3524, 42824, 3, -1, 2, 4, -3}, -10);
        restsAsPlain(new int[] {2, 48995, 63065, 9, 3, 2, 1, 2}, 11);
        restsAsPlain(new int[] {1, 25246, 30128, 8, 0, 2, 5, -2}, -10);
        restsAsPlain(new int[] {1, 31343, 2055, 5, -2, 2, 4, 1}, -34);
    }

    /** A SLICE and two WEIGHTS, and a SLOPE at which one of the RESTS lies. */
    private static void restsAsPlain(int[] n, int slope) {
        ShipSways x = new ShipSways();
        Plain p = new Plain();
        Due.is("slice", p.slice(n[0], n[1], n[2]), x.slice(n[0], n[1], n[2]));
        Due.is("weight", p.weight(n[3], n[4], n[5], NONE), x.weight(n[3], n[4], n[5], NONE));
        Due.is("weight", p.weight(n[6], n[7], 1, NONE), x.weight(n[6], n[7], 1, NONE));
        int found = 0;
        for (int k = 0; k <= p.rests().size(); k++) {
            found += x.rest(k) == slope ? 1 : 0;
            Due.is("rest(" + k + ")", p.rest(k), x.rest(k));
            Due.is("stays(" + k + ")", p.stays(k), x.stays(k));
        }
        Due.is("at " + slope, 1, found);
    }

    private static void wave() {
        ShipSways x = new ShipSways();
        int[][] wrong = {
            {0, 4, 0}, {61, 4, 0}, {1, 3, 0}, {1, 65, 0}, {1, 4, -1}, {1, 4, 16}, {MIN, 4, 0}, {1, MAX, 0}, {1, 0, 0}, {1, 4, MIN}
        };
        for (int[] w : wrong) {
            Due.is("wave refused", NONE, x.wave(w[0], w[1], w[2]));
        }
        Due.is("no push", 0, x.sea(3));
        for (int i = 0; i < 8; i++) {
            Due.is("wave " + i, i, x.wave(60, 64, 15));
        }
        Due.is("a ninth", NONE, x.wave(60, 64, 15));
        Due.is("8 came", 8, x.count(4));
        Due.is("its push isn't there", 8 * (60 * -383 / 1000), x.sea(0));
    }

    private static void sea() {
        ShipSways x = new ShipSways();
        x.wave(60, 16, 0);
        int[] pushes = {0, 22, 42, 55, 60, 55, 42, 22, 0, -22, -42, -55, -60, -55, -42, -22};
        for (int t = 0; t < 32; t++) {
            Due.is("sea(" + t + ")", pushes[t % 16], x.sea(t));
        }
        Due.is("sea(599)", pushes[599 % 16], x.sea(599));
        Due.is("sea(600)", VOID, x.sea(600));
        Due.is("sea(-1)", VOID, x.sea(-1));
        Due.is("sea(MAX)", VOID, x.sea(MAX));
        Due.is("sea(MIN)", VOID, x.sea(MIN));
        // Each is cut by itself: 7 times 383 by 1000 is 2, and 5 times it is 1.
        ShipSways y = new ShipSways();
        y.wave(7, 16, 1);
        y.wave(5, 16, 1);
        y.wave(7, 16, 9);
        Due.is("2 and 1 and -2", 1, y.sea(0));
        // t times 16 by PERIOD, cut: 5 times 16 by 9 is 8, with the PHASE 15 it is 23, so 7.
        ShipSways z = new ShipSways();
        z.wave(10, 9, 15);
        Due.is("sea(5)", 3, z.sea(5));
        Due.is("sea(0)", -3, z.sea(0));
    }

    private static void set() {
        ShipSways x = new ShipSways();
        int[][] right = {{0, 1}, {0, 1000000}, {1, 0}, {1, 50}, {2, 1}, {2, 50}, {3, 0}, {3, 9}};
        for (int[] r : right) {
            Due.yes("set(" + r[0] + ", " + r[1] + ")", x.set(r[0], r[1]));
        }
        int[][] wrong = {
            {0, 0}, {0, 1000001}, {1, -1}, {1, 51}, {2, 0}, {2, 51}, {3, -1}, {3, 10}, {4, 1}, {-1, 1}, {MAX, 1}, {0, MIN}, {2, MAX}
        };
        for (int[] w : wrong) {
            Due.no("set(" + w[0] + ", " + w[1] + ")", x.set(w[0], w[1]));
        }
        // STIFF, SLOW, INERT and FINS of a ship with SPEED 15 at SLOPE 15, ahead of its second TICK.
        int[] asTold = parts(1000, 1, 0);
        int[] stiffer = parts(100, 1, 0);
        int[] slower = parts(1000, 50, 0);
        int[] finned = parts(1000, 1, 9);
        Due.is("at first: 1", -1, asTold[2]);
        Due.is("at first: no FINS", 0, asTold[3]);
        Due.is("STIFF", stiffer[0] / 10, asTold[0]);
        Due.is("SLOW", -75, slower[2]);
        Due.is("FINS", -33, finned[3]);
    }

    private static int[] parts(int stiff, int slow, int fins) {
        ShipSways x = barge();
        x.wave(60, 16, 4);
        x.go(1);
        Due.is("SPEED by INERT 4", 15, x.kept(0, 1));
        Due.is("SLOPE", 15, x.kept(0, 0));
        x.set(0, stiff);
        x.set(1, slow);
        x.set(3, fins);
        int arm = x.at(15, 2);
        x.go(1);
        Due.is("lead(0)", -arm / stiff, x.lead(0));
        return new int[] {x.lead(0), x.lead(1), x.lead(2), x.lead(3)};
    }

    private static void go() {
        ShipSways x = barge();
        Due.is("go(-1)", NONE, x.go(-1));
        Due.is("go(101)", NONE, x.go(101));
        Due.is("go(MAX)", NONE, x.go(MAX));
        Due.is("go(MIN)", NONE, x.go(MIN));
        Due.is("go(0)", 0, x.go(0));
        for (int i = 1; i <= 5; i++) {
            Due.is("go(100)", 100 * i, x.go(100));
        }
        Due.is("go(99)", 599, x.go(99));
        Due.is("holds at 599", 1, x.holds(0));
        Due.is("go(100) up to 600", 600, x.go(100));
        Due.is("go(1) behind the last", 600, x.go(1));
        Due.is("NOW", 600, x.count(0));
        Due.is("kept(599, 0)", 0, x.kept(599, 0));
        Due.is("kept(600, 0)", VOID, x.kept(600, 0));
        Due.is("WORKED in all", 600, x.count(8));
        Due.is("holds at 600", NONE, x.holds(0));
        limits();
        capsize();
    }

    private static void limits() {
        // FORCE is held at 1000, SPEED at 30; SLOPE 80 isn't beyond, 81 is.
        ShipSways x = new ShipSways();
        x.slice(20, 99999, 99999);
        x.weight(500, 19, 40, NONE);
        x.set(0, 1);
        x.set(2, 50);
        x.go(1);
        Due.is("FORCE is held", 1000, x.kept(0, 2));
        Due.yes("but its part isn't", x.lead(0) > 1000);
        Due.is("SPEED", 20, x.kept(0, 1));
        x.go(3);
        Due.is("SPEED is held", 30, x.kept(1, 1));
        Due.is("SLOPE 20, 50, 80", 80, x.kept(2, 0));
        Due.is("SLOPE is held", 80, x.kept(3, 0));
        Due.is("OVER", 1, x.count(9));
        ShipSways y = new ShipSways();
        y.slice(20, 99999, 99999);
        y.weight(500, 19, 40, NONE);
        y.set(0, 1);
        y.set(2, 50);
        y.go(3);
        Due.is("80 isn't OVER", 0, y.count(9));
        Due.is("SICK: 16, 26, 26", 68, y.count(7));
        y.go(1);
        Due.is("SICK in the TICK that brings it OVER", 94, y.count(7));
        Due.is("WORKED likewise", 4, y.count(8));
        y.go(10);
        Due.is("then no more", 94, y.count(7));
        Due.is("then no more", 4, y.count(8));
        Due.is("NOW", 14, y.count(0));
    }

    private static void capsize() {
        // Without a LEVEL (1) is done, and nothing else; later not even that.
        ShipSways x = barge();
        x.wave(60, 16, 4);
        x.mark(0, 0);
        Due.is("loose", 1, x.weight(10, 0, 1, 2));
        x.go(1);
        Due.is("SLOPE 15", 15, x.kept(0, 0));
        Due.is("it lay still", 0, x.place(1));
        Due.is("wet once", 1, x.wetted(0));
        int led = x.lead(1);
        for (int i = 0; i < 2; i++) {
            x.weight(500, 0, 0, NONE);
        }
        x.go(1);
        Due.is("it slid", 1, x.place(1));
        Due.is("OVER", 1, x.count(9));
        Due.is("SLOPE as it was", 15, x.kept(1, 0));
        Due.is("SPEED as it was", 15, x.kept(1, 1));
        Due.is("FORCE 0", 0, x.kept(1, 2));
        Due.is("can't be CHECKED", NONE, x.check(1, 0, 0));
        Due.is("lead as it was", led, x.lead(1));
        Due.is("SICK as it was", 11, x.count(7));
        Due.is("WORKED as it was", 1, x.count(8));
        x.lose(2);
        x.lose(3);
        x.go(3);
        Due.is("it slides no more", 1, x.place(1));
        Due.is("kept(2, 0)", 0, x.kept(2, 0));
        Due.is("kept(4, 1)", 0, x.kept(4, 1));
        Due.is("still OVER", 1, x.count(9));
        Due.is("but SLOPE stays", 15, x.tried(5, 0));
    }

    private static void slide() {
        ShipSways x = new ShipSways();
        x.slice(20, 99999, 99999);
        x.weight(400, 0, 0, NONE);
        x.wave(40, 64, 4);
        x.set(0, 1000000);
        x.set(1, 0);
        x.set(2, 40);
        Due.is("MARK 0", 1, x.weight(1, 17, 0, 0));
        Due.is("MARK 1", 2, x.weight(1, 0, 0, 1));
        Due.is("fixed", 3, x.weight(1, 0, 0, NONE));
        // SPEED grows by 1: SLOPES 1, 3, 6, 10 behind the TICKS 0 .. 3.
        x.go(1);
        Due.is("SLOPE", 1, x.kept(0, 0));
        Due.is("SLOPE 0 is not above 0", 17, x.place(1));
        x.go(1);
        Due.is("SLOPE 1 is above 0", 18, x.place(1));
        Due.is("1 is not above 1", 0, x.place(2));
        x.go(2);
        Due.is("19 is the last place", 19, x.place(1));
        Due.is("3 and 6 are above 1", 2, x.place(2));
        Due.is("fixed", 0, x.place(3));
        Texts.rule(x, "work moved = 2;");
        Due.is("moved are two", 1, x.holds(0));
        x.go(1);
        Due.is("no farther", 19, x.place(1));
        Due.yes("lose(2)", x.lose(2));
        Due.is("moved is one", 0, x.holds(0));
        ShipSways y = new ShipSways();
        y.slice(20, 99999, 99999);
        y.weight(400, 0, 0, NONE);
        y.wave(40, 64, 12);
        y.set(0, 1000000);
        y.set(1, 0);
        y.set(2, 40);
        y.weight(1, -18, 0, 0);
        y.weight(1, 0, 0, 1);
        y.go(4);
        Due.is("SLOPE", -10, y.kept(3, 0));
        Due.is("to the other side", -19, y.place(1));
        Due.is("below -1 twice", -2, y.place(2));
    }

    private static void kept() {
        ShipSways x = barge();
        x.wave(10, 16, 0);
        x.go(4);
        int[][] rows = {{0, 0, 0}, {0, 0, 3}, {1, 1, 7}, {4, 3, 9}};
        for (int t = 0; t < 4; t++) {
            for (int what = 0; what < 3; what++) {
                Due.is("kept(" + t + ", " + what + ")", rows[t][what], x.kept(t, what));
            }
        }
        Due.is("kept(4, 0)", VOID, x.kept(4, 0));
        Due.is("kept(-1, 0)", VOID, x.kept(-1, 0));
        Due.is("kept(0, 3)", VOID, x.kept(0, 3));
        Due.is("kept(0, -1)", VOID, x.kept(0, -1));
        Due.is("kept(MIN, MIN)", VOID, x.kept(MIN, MIN));
        x.set(2, 1);
        Due.is("what is told goes for what comes", 3, x.kept(3, 1));
    }

    private static void lead() {
        ShipSways x = barge();
        for (int k = 0; k < 4; k++) {
            Due.is("lead ahead of the first", 0, x.lead(k));
        }
        Due.is("lead(-1)", VOID, x.lead(-1));
        Due.is("lead(4)", VOID, x.lead(4));
        Due.is("lead(MAX)", VOID, x.lead(MAX));
        x.wave(60, 16, 4);
        x.set(3, 5);
        x.set(1, 7);
        x.go(1);
        int arm = x.at(15, 2);
        Texts.rule(x, "fin speed > 14;");
        x.tried(50, 0);
        Due.is("trying changes no part", 60, x.lead(1));
        x.go(1);
        Due.is("lead(0)", -arm / 1000, x.lead(0));
        Due.is("lead(1)", 55, x.lead(1));
        Due.is("lead(2): 15 times 7 by 10", -10, x.lead(2));
        Due.is("lead(3): 15 times 5 by 4", -18, x.lead(3));
        int sum = x.lead(0) + x.lead(1) + x.lead(2) + x.lead(3);
        Due.is("FORCE", sum, x.kept(1, 2));
        Texts.rule(x, "fin speed < 0 - 100;");
        x.go(1);
        Due.is("fin doesn't hold", 0, x.lead(3));
    }

    private static void feedAndEnd() {
        ShipSways x = new ShipSways();
        Due.no("end(1) of nothing", x.end(1));
        Due.yes("end(0)", x.end(0));
        for (int i = 1; i <= 15; i++) {
            Due.is("feed", 20 * i, x.feed(0x20202020, 0x20202020, 0x20202020, 0x20202020, 0x20202020));
        }
        Due.is("feed beyond 300", NONE, x.feed(0, 0, 0, 0, 0));
        Due.is("300 stay", 300, x.count(6));
        Due.is("blanks alone", NONE, x.fault());
        Due.no("end(301)", x.end(301));
        Due.no("end(-1)", x.end(-1));
        Due.no("end(MAX)", x.end(MAX));
        Due.no("end(MIN)", x.end(MIN));
        Due.yes("end(300)", x.end(300));
        Due.yes("end(281)", x.end(281));
        Due.is("no room for 20", NONE, x.feed(0, 0, 0, 0, 0));
        Due.is("281 stay", 281, x.count(6));
        Due.yes("end(280)", x.end(280));
        // A ; as the third byte: the highest byte of each number comes first.
        Due.is("feed", 300, x.feed(0x20203b20, 0x20202020, 0xe9202020, 0x20202020, 0x20202020));
        Due.is("the ;", 282, x.fault());
        Due.yes("end(282)", x.end(282));
        Due.is("without it", NONE, x.fault());
        Due.yes("end(0)", x.end(0));
        Due.is("feed", 20, x.feed(0x20202020, 0x202020ff, 0x20202020, 0x20202020, 0x20202020));
        Due.is("the byte 255", 7, x.fault());
    }
}
