/** ==== 2. of the document, sentence by sentence: WAVES, what is told, and all that a TICK does, at their edges. */
public final class TickEdgesTest {
    private static final int NONE = ShipSways.NONE;
    private static final int VOID = ShipSways.VOID;
    private static final int MAX = Integer.MAX_VALUE;
    private static final int MIN = Integer.MIN_VALUE;
    private static final int STARBOARD = 4;
    private static final int PORT = 12;

    private TickEdgesTest() {
    }

    public static void main(String[] args) {
        wavesHaveRoom();
        waveBounds();
        sines();
        pushIsCut();
        sineOfTick();
        sea();
        nowGoesTo600();
        goBounds();
        toldAtFirst();
        setBounds();
        loose();
        looseOfAll();
        looseAtTheSides();
        partsAreCut();
        forceIsHeld();
        forceByInert();
        speedIsHeld();
        slopeIsHeld();
        sick();
        worked();
        noLevelAtSlope();
        overAheadOfIt();
        marksHaveRoom();
        wet();
        wettedOnce();
        kept();
        lead();
        forWhatComes();
        Due.end();
    }

    /** Swims upright and swings by THE SEA alone: it has no other part of FORCE, and SPEED is more by all of it. */
    private static ShipSways raft(int push, int phase) {
        ShipSways x = new ShipSways();
        x.slice(20, 99999, 99999);
        x.weight(400, 0, 0, NONE);
        x.set(0, 1000000);
        x.set(1, 0);
        x.set(2, 1);
        if (push > 0) {
            // The SINE is 1000 either way in the TICKS 0 .. 3.
            Due.is("wave", 0, x.wave(push, 64, phase));
        }
        return x;
    }

    private static void wavesHaveRoom() {
        Due.of("WAVES have numbers as they come, at most 8");
        ShipSways x = new ShipSways();
        for (int i = 0; i < 8; i++) {
            Due.is("refused between", NONE, x.wave(0, 4, 0));
            Due.is("wave " + i, i, x.wave(60, 4, 4));
            Due.is("WAVES", i + 1, x.count(4));
            Due.is("THE SEA is the sum of all", 60 * (i + 1), x.sea(0));
        }
        Due.is("a ninth", NONE, x.wave(60, 4, 4));
        Due.is("WAVES", 8, x.count(4));
        Due.is("sea(0)", 480, x.sea(0));
        Due.is("sea(2)", -480, x.sea(2));
        Due.is("goes(7)", 0, x.goes(7));
        Due.is("goes(8)", VOID, x.goes(8));
    }

    private static void waveBounds() {
        Due.of("a HEIGHT (1 .. 60), a PERIOD (4 .. 64), a PHASE (0 .. 15)");
        ShipSways x = new ShipSways();
        for (int height : new int[] {MIN, -1, 0, 61, MAX}) {
            Due.is("HEIGHT " + height, NONE, x.wave(height, 4, 4));
        }
        for (int period : new int[] {MIN, -4, 0, 3, 65, MAX}) {
            Due.is("PERIOD " + period, NONE, x.wave(1, period, 4));
        }
        for (int phase : new int[] {MIN, -1, 16, MAX}) {
            Due.is("PHASE " + phase, NONE, x.wave(1, 4, phase));
        }
        Due.is("none came", 0, x.count(4));
        Due.is("no push", 0, x.sea(0));
        Due.is("the least", 0, x.wave(1, 4, 0));
        Due.is("sea(1)", 1, x.sea(1));
        Due.is("the greatest", 1, x.wave(60, 64, 15));
        Due.is("sea(0)", -22, x.sea(0));
        Due.is("sea(4)", 0, x.sea(4));
        Due.is("sea(8)", 22, x.sea(8));
    }

    private static void sines() {
        Due.of("SINES of 0 .. 15 are 0 383 707 924 1000 924 707 383 0 -383 -707 -924 -1000 -924 -707 -383");
        int[] due = {0, 383, 707, 924, 1000, 924, 707, 383, 0, -383, -707, -924, -1000, -924, -707, -383};
        for (int half = 0; half < 16; half += 8) {
            ShipSways x = new ShipSways();
            x.record(1);
            for (int i = 0; i < 8; i++) {
                x.wave(1, 4, half + i);
                Due.is("SINE of " + (half + i), due[half + i], x.goes(i));
            }
        }
    }

    private static void pushIsCut() {
        Due.of("HEIGHT times the SINE .. by 1000 (cut)");
        int[][] rows = {
            {1, 3, 0}, {1, 11, 0}, {1, 4, 1}, {1, 12, -1}, {2, 2, 1}, {2, 10, -1}, {60, 1, 22}, {60, 9, -22},
            {60, 4, 60}, {60, 12, -60}, {59, 3, 54}, {59, 13, -54}, {60, 0, 0}, {60, 8, 0}
        };
        for (int[] r : rows) {
            ShipSways x = new ShipSways();
            x.wave(r[0], 4, r[1]);
            Due.is("HEIGHT " + r[0] + ", PHASE " + r[1], r[2], x.sea(0));
        }
        // Each is cut by itself: 1 and 1, not 2 times 1.532.
        ShipSways x = new ShipSways();
        x.wave(4, 4, 1);
        x.wave(4, 4, 1);
        Due.is("cut ahead of the sum", 2, x.sea(0));
    }

    private static void sineOfTick() {
        Due.of("the SINE of t times 16 by PERIOD (cut) and PHASE, together (its rest by 16)");
        int[][] rows = {
            {5, 0, 0, 0}, {5, 0, 1, 55}, {5, 0, 2, 42}, {5, 0, 3, -22}, {5, 0, 4, -60}, {5, 0, 5, 0}, {5, 0, 6, 55},
            {64, 0, 3, 0}, {64, 0, 4, 22}, {64, 0, 63, -22}, {64, 0, 64, 0}, {64, 15, 3, -22}, {64, 15, 4, 0}, {64, 15, 8, 22},
            {4, 0, 599, -60}, {4, 15, 599, -55}, {64, 0, 599, 55}, {64, 15, 599, 60}, {63, 0, 3, 0}, {63, 0, 4, 22}, {7, 3, 599, -60}
        };
        for (int[] r : rows) {
            ShipSways x = new ShipSways();
            x.wave(60, r[0], r[1]);
            Due.is("PERIOD " + r[0] + ", PHASE " + r[1] + ", TICK " + r[2], r[3], x.sea(r[2]));
        }
    }

    private static void sea() {
        Due.of("THE SEA's push in a TICK (0 .. 599); VOID for others");
        ShipSways x = new ShipSways();
        for (int tick : new int[] {0, 1, 598, 599}) {
            Due.is("without WAVES in " + tick, 0, x.sea(tick));
        }
        x.wave(60, 4, 0);
        Due.is("sea(0)", 0, x.sea(0));
        Due.is("sea(599)", -60, x.sea(599));
        for (int tick : new int[] {MIN, -1, 600, 601, MAX}) {
            Due.is("sea(" + tick + ")", VOID, x.sea(tick));
        }
    }

    private static void nowGoesTo600() {
        Due.of("TICKS are 0 .. 599; NOW is one (0 at first; 600 behind the last one)");
        ShipSways x = raft(0, 0);
        Due.is("at first", 0, x.count(0));
        for (int i = 1; i <= 5; i++) {
            Due.is("go(100)", 100 * i, x.go(100));
        }
        Due.is("go(98)", 598, x.go(98));
        Due.is("kept(598, 0)", VOID, x.kept(598, 0));
        Due.is("go(1)", 599, x.go(1));
        Due.is("kept(598, 0)", 0, x.kept(598, 0));
        Due.is("kept(599, 0)", VOID, x.kept(599, 0));
        Due.is("WORKED", 599, x.count(8));
        Due.is("go(1), the last", 600, x.go(1));
        Due.is("kept(599, 0)", 0, x.kept(599, 0));
        Due.is("WORKED", 600, x.count(8));
        for (int n : new int[] {0, 1, 100}) {
            Due.is("go(" + n + ") at 600", 600, x.go(n));
        }
        Due.is("WORKED", 600, x.count(8));
        Due.is("kept(600, 0)", VOID, x.kept(600, 0));
        Due.is("go(-1) at 600", NONE, x.go(-1));
        Due.is("go(101) at 600", NONE, x.go(101));
        ShipSways y = raft(0, 0);
        for (int i = 0; i < 5; i++) {
            y.go(100);
        }
        y.go(60);
        Due.is("up to 600", 600, y.go(100));
        Due.is("WORKED", 600, y.count(8));
    }

    private static void goBounds() {
        Due.of("n TICKS go (0 .. 100; up to 600): NOW; NONE for another n");
        ShipSways x = raft(0, 0);
        for (int n : new int[] {MIN, -1, 101, 600, MAX}) {
            Due.is("go(" + n + ")", NONE, x.go(n));
            Due.is("NOW", 0, x.count(0));
            Due.is("nothing is kept", VOID, x.kept(0, 0));
        }
        Due.is("go(0)", 0, x.go(0));
        Due.is("nothing is kept", VOID, x.kept(0, 0));
        Due.is("go(1)", 1, x.go(1));
        Due.is("go(100)", 101, x.go(100));
        Due.is("go(99)", 200, x.go(99));
    }

    private static void toldAtFirst() {
        Due.of("STIFF 1000, SLOW 1, INERT 4 and FINS 0 at first");
        ShipSways x = new ShipSways();
        x.slice(20, 99999, 99999);
        x.weight(400, 0, 0, NONE);
        x.wave(60, 64, STARBOARD);
        x.go(1);
        Due.is("60 by INERT", 15, x.kept(0, 1));
        int arm = x.at(15, 2);
        x.go(1);
        Due.is("the ARM by STIFF", -arm / 1000, x.lead(0));
        Due.yes("which is something", x.lead(0) < -9);
        Due.is("15 times SLOW by 10", -1, x.lead(2));
        Due.is("15 times FINS by 4", 0, x.lead(3));
        Due.is("FORCE of the parts", x.lead(0) + 60 - 1, x.kept(1, 2));
        // An ARM of just -1000000 tells 1000 from its neighbours.
        ShipSways y = new ShipSways();
        y.slice(20, 99999, 99999);
        y.weight(500, 19, 0, NONE);
        y.weight(250, 2, 0, NONE);
        y.go(1);
        Due.is("the ARM by STIFF", 1000, y.lead(0));
        Due.is("FORCE by INERT, held", 30, y.kept(0, 1));
    }

    private static void setBounds() {
        Due.of("STIFF (1 .. 1000000), SLOW (0 .. 50), INERT (1 .. 50) and FINS (0 .. 9) are told");
        int[] least = {1, 0, 1, 0};
        int[] most = {1000000, 50, 50, 9};
        for (int what = 0; what < 4; what++) {
            ShipSways x = pushed();
            Due.yes("set(" + what + ", " + least[what] + ")", x.set(what, least[what]));
            int[] asLeast = answers(x, what, least[what]);
            refuseAll(x, what, least[what] - 1, most[what] + 1);
            same(asLeast, answers(x, what, least[what]));
            x = pushed();
            Due.yes("set(" + what + ", " + most[what] + ")", x.set(what, most[what]));
            int[] asMost = answers(x, what, most[what]);
            refuseAll(x, what, least[what] - 1, most[what] + 1);
            same(asMost, answers(x, what, most[what]));
        }
        Due.of("false for others, or if the value can't be");
        ShipSways x = pushed();
        for (int what : new int[] {MIN, -1, 4, MAX}) {
            for (int value : new int[] {MIN, 0, 1, MAX}) {
                Due.no("set(" + what + ", " + value + ")", x.set(what, value));
            }
        }
    }

    /** At the SLOPE 15 with the SPEED 15, so that each part of FORCE has something to tell. */
    private static ShipSways pushed() {
        ShipSways x = raft(15, STARBOARD);
        x.weight(3, 0, 0, NONE);
        x.go(1);
        Due.is("SPEED", 15, x.kept(0, 1));
        x.set(1, 10);
        x.set(3, 4);
        return x;
    }

    private static void refuseAll(ShipSways x, int what, int below, int above) {
        for (int value : new int[] {MIN, below, above, MAX}) {
            Due.no("set(" + what + ", " + value + ")", x.set(what, value));
        }
    }

    /** What the next TICK will be by what is told, as a copy of the ship finds it. */
    private static int[] answers(ShipSways x, int what, int value) {
        ShipSways y = pushed();
        Due.yes("set", y.set(what, value));
        int arm = y.at(15, 2);
        int slope = y.tried(1, 0);
        int sick = y.tried(1, 1);
        y.go(1);
        Due.is("the ARM by STIFF", -arm / (what == 0 ? value : 1000000), y.lead(0));
        Due.is("SPEED times SLOW by 10", -15 * (what == 1 ? value : 10) / 10, y.lead(2));
        Due.is("SPEED times FINS by 4", -15 * (what == 3 ? value : 4) / 4, y.lead(3));
        int force = Math.max(-1000, y.lead(0) + 15 + y.lead(2) + y.lead(3));
        Due.is("FORCE", force, y.kept(1, 2));
        Due.is("SPEED by INERT", Math.max(-30, 15 + force / (what == 2 ? value : 1)), y.kept(1, 1));
        Due.is("tried of it", slope, x.tried(1, 0));
        return new int[] {slope, sick, x.tried(1, 0), x.tried(1, 1)};
    }

    private static void same(int[] due, int[] got) {
        for (int i = 0; i < due.length; i++) {
            Due.is("behind what is refused", due[i], got[i]);
        }
    }

    private static void loose() {
        Due.of("each LOOSE WEIGHT with a SLOPE above its MARK goes to place + 1, with one below - MARK to place - 1");
        for (int side = 1; side >= -1; side -= 2) {
            ShipSways x = raft(20, side > 0 ? STARBOARD : PORT);
            int[] marks = {NONE, 0, 19, 20, 21, 49, 50, 79, 80};
            for (int i = 0; i < marks.length; i++) {
                Due.is("weight", i + 1, x.weight(1, 0, 0, marks[i]));
            }
            int[] slopes = {20, 50, 80, 80};
            int[][] places = {
                {0, 0, 0, 0, 0, 0, 0, 0, 0}, {0, 1, 1, 0, 0, 0, 0, 0, 0}, {0, 2, 2, 1, 1, 1, 0, 0, 0}, {0, 3, 3, 2, 2, 2, 1, 1, 0}
            };
            for (int t = 0; t < 4; t++) {
                x.go(1);
                Due.is("SLOPE", side * slopes[t], x.kept(t, 0));
                for (int i = 0; i < marks.length; i++) {
                    Due.is("MARK " + marks[i] + " in TICK " + t, side * places[t][i], x.place(i + 1));
                }
            }
            Due.is("OVER", 1, x.count(9));
            x.go(5);
            Due.is("it goes no more", side * 3, x.place(2));
        }
    }

    private static void looseOfAll() {
        Due.of("each LOOSE WEIGHT, the first and the last of 12");
        ShipSways x = new ShipSways();
        x.slice(20, 99999, 99999);
        x.wave(1, 64, STARBOARD);
        x.set(0, 1000000);
        x.set(2, 1);
        for (int i = 0; i < 12; i++) {
            x.weight(30, i - 5, 0, 0);
        }
        Texts.rule(x, "work moved = 12;");
        x.go(1);
        Due.is("none has moved", 0, x.holds(0));
        x.go(1);
        for (int i = 0; i < 12; i++) {
            Due.is("place(" + i + ")", i - 4, x.place(i));
        }
        Due.is("all have moved", 1, x.holds(0));
    }

    private static void looseAtTheSides() {
        Due.of("to place + 1, .. to place - 1 (-19 .. 19)");
        for (int side = 1; side >= -1; side -= 2) {
            ShipSways x = raft(1, side > 0 ? STARBOARD : PORT);
            x.weight(1, side * 18, 0, 0);
            x.weight(1, side * 19, 0, 0);
            x.weight(1, side * -19, 0, 0);
            x.go(2);
            Due.is("up to it", side * 19, x.place(1));
            Due.is("not beyond", side * 19, x.place(2));
            Due.is("away from the other", side * -18, x.place(3));
            x.go(1);
            Due.is("not beyond", side * 19, x.place(1));
        }
    }

    private static void partsAreCut() {
        Due.of("FORCE is the sum of .. (each cut; ..)");
        for (int side = 1; side >= -1; side -= 2) {
            ShipSways x = raft(19, side > 0 ? STARBOARD : PORT);
            x.go(1);
            int arm = x.at(side * 19, 2);
            x.set(0, 1000);
            x.set(1, 1);
            x.set(3, 1);
            Due.yes("the ARM isn't whole", arm % 1000 != 0);
            x.go(1);
            Due.is("part 0", side * -(Math.abs(arm) / 1000), x.lead(0));
            Due.is("part 1", side * 19, x.lead(1));
            Due.is("part 2: 19 by 10", side * -1, x.lead(2));
            Due.is("part 3: 19 by 4", side * -4, x.lead(3));
            Due.is("FORCE", x.lead(0) + x.lead(1) + x.lead(2) + x.lead(3), x.kept(1, 2));
        }
        Due.of("3 less SPEED times FINS by 4, if fin holds");
        ShipSways x = raft(20, STARBOARD);
        x.set(3, 9);
        Texts.rule(x, "fin speed > 20;");
        x.go(2);
        Due.is("it doesn't hold", 0, x.lead(3));
        Due.is("SPEED is held", 30, x.kept(1, 1));
        x.go(1);
        Due.is("it holds: 30 times 9 by 4", -67, x.lead(3));
    }

    private static void forceIsHeld() {
        Due.of("brought into -1000 .. 1000 together");
        // 500 at 19: the ARM upright is 950000.
        int[][] rows = {{951, 998, 998, 0}, {950, 1000, 1000, 0}, {949, 1001, 1000, 0}, {949, 1001, 1000, 1}, {949, 1001, 999, 2}, {1, 950000, 1000, 60}};
        for (int side = 1; side >= -1; side -= 2) {
            for (int[] r : rows) {
                ShipSways x = new ShipSways();
                x.slice(20, 99999, 99999);
                x.weight(500, side * 19, 0, NONE);
                x.set(0, r[0]);
                x.set(2, 50);
                if (r[3] > 0) {
                    x.wave(r[3], 64, side > 0 ? PORT : STARBOARD);
                }
                x.go(1);
                Due.is("part 0 by " + r[0], side * r[1], x.lead(0));
                Due.is("part 1", side * -r[3], x.lead(1));
                Due.is("FORCE by " + r[0], side * r[2], x.kept(0, 2));
                Due.is("SPEED by it", side * (r[2] / 50), x.kept(0, 1));
            }
        }
    }

    private static void forceByInert() {
        Due.of("SPEED becomes SPEED and FORCE by INERT (cut)");
        int[][] rows = {{7, 4, 1}, {8, 4, 2}, {3, 4, 0}, {49, 50, 0}, {50, 50, 1}, {29, 1, 29}, {59, 2, 29}};
        for (int side = 1; side >= -1; side -= 2) {
            for (int[] r : rows) {
                ShipSways x = raft(r[0], side > 0 ? STARBOARD : PORT);
                x.set(2, r[1]);
                x.go(1);
                Due.is(r[0] + " by " + r[1], side * r[2], x.kept(0, 1));
                Due.is("SLOPE", side * r[2], x.kept(0, 0));
                Due.is("it can be CHECKED", 0, x.check(0, 1, 0));
            }
        }
    }

    private static void speedIsHeld() {
        Due.of("brought into -30 .. 30");
        for (int side = 1; side >= -1; side -= 2) {
            for (int push = 29; push <= 32; push++) {
                ShipSways x = raft(push, side > 0 ? STARBOARD : PORT);
                x.go(1);
                Due.is("SPEED by " + push, side * Math.min(30, push), x.kept(0, 1));
                Due.is("SLOPE by " + push, side * Math.min(30, push), x.kept(0, 0));
                Due.is("FORCE by " + push, side * push, x.kept(0, 2));
            }
        }
    }

    private static void slopeIsHeld() {
        Due.of("what is beyond -80 or 80 is that, and the ship is OVER");
        for (int side = 1; side >= -1; side -= 2) {
            for (int push = 19; push <= 22; push++) {
                ShipSways x = raft(push, side > 0 ? STARBOARD : PORT);
                x.go(2);
                Due.is("not OVER yet", 0, x.count(9));
                x.go(1);
                Due.is("SLOPE", side * Math.min(80, push + 60), x.kept(2, 0));
                Due.is("SPEED", side * 30, x.kept(2, 1));
                Due.is("OVER", push + 60 > 80 ? 1 : 0, x.count(9));
                x.go(1);
                Due.is("OVER", 1, x.count(9));
                Due.is("SLOPE kept", push + 60 > 80 ? 0 : side * 80, x.kept(3, 0));
                Due.is("SLOPE it has", 80, x.tried(0, 0));
            }
        }
    }

    private static void sick() {
        Due.of("SICK (0 at first) is more by what SPEED is above 4, or below -4");
        for (int side = 1; side >= -1; side -= 2) {
            for (int push = 1; push <= 31; push++) {
                ShipSways x = raft(push, side > 0 ? STARBOARD : PORT);
                Due.is("at first", 0, x.count(7));
                x.go(1);
                Due.is("SPEED " + push, Math.max(0, Math.min(30, push) - 4), x.count(7));
            }
        }
        ShipSways x = raft(3, STARBOARD);
        x.go(4);
        Due.is("3, 6, 9, 12: 0 and 2 and 5 and 8", 15, x.count(7));
    }

    private static void worked() {
        Due.of("WORKED is one more, if work holds");
        ShipSways x = raft(3, STARBOARD);
        Texts.rule(x, "work speed > 6;");
        x.go(2);
        Due.is("3 and 6", 0, x.count(8));
        x.go(1);
        Due.is("9", 1, x.count(8));
        Texts.rule(x, "");
        x.go(1);
        Due.is("without a CLAUSE", 2, x.count(8));
    }

    private static void noLevelAtSlope() {
        Due.of("If there is no LEVEL at SLOPE, it is OVER at once: nothing behind (1) is done, but the TICK goes");
        for (int side = 1; side >= -1; side -= 2) {
            ShipSways x = raft(20, side > 0 ? STARBOARD : PORT);
            x.set(3, 1);
            x.weight(1, 0, 0, 0);
            x.mark(0, 0);
            x.go(2);
            int sick = x.count(7);
            Due.is("SPEED", side * 30, x.kept(1, 1));
            Due.is("part 3", side * -5, x.lead(3));
            Due.is("it went once", side, x.place(1));
            x.lose(0);
            for (int i = 0; i < 8; i++) {
                x.weight(500, 0, 0, NONE);
            }
            Due.is("no LEVEL", VOID, x.at(side * 50, 0));
            Due.is("not OVER ahead of a TICK", 0, x.count(9));
            Due.is("go(1)", 3, x.go(1));
            Due.is("OVER", 1, x.count(9));
            Due.is("(1) is done", side * 2, x.place(1));
            Due.is("SICK", sick, x.count(7));
            Due.is("WORKED", 2, x.count(8));
            Due.is("WETTED", 1, x.wetted(0));
            Due.is("part 3 as it was", side * -5, x.lead(3));
            Due.of("as they were, and FORCE 0, if there was no LEVEL");
            Due.is("SLOPE", x.kept(1, 0), x.kept(2, 0));
            Due.is("SPEED", side * 30, x.kept(2, 1));
            Due.is("FORCE", 0, x.kept(2, 2));
            Due.is("it isn't CHECKED", NONE, x.check(2, 2, 0));
        }
    }

    private static void overAheadOfIt() {
        Due.of("all 0 if it was OVER ahead of it");
        ShipSways x = raft(21, PORT);
        x.weight(1, 0, 0, 0);
        x.mark(0, 0);
        x.go(3);
        Due.is("OVER", 1, x.count(9));
        Due.is("kept of the TICK that made it so", -80, x.kept(2, 0));
        Due.is("kept of the TICK that made it so", -30, x.kept(2, 1));
        Due.is("kept of the TICK that made it so", -21, x.kept(2, 2));
        int sick = x.count(7);
        Due.is("SICK of that TICK too", 17 + 26 + 26, sick);
        Due.is("WORKED of that TICK too", 3, x.count(8));
        Due.is("go(2)", 5, x.go(2));
        for (int what = 0; what <= 2; what++) {
            Due.is("kept(3, " + what + ")", 0, x.kept(3, what));
            Due.is("kept(4, " + what + ")", 0, x.kept(4, what));
        }
        Due.is("kept(5, 0)", VOID, x.kept(5, 0));
        Due.is("SICK", sick, x.count(7));
        Due.is("WORKED", 3, x.count(8));
        Due.is("WETTED", 1, x.wetted(0));
        Due.is("it goes no more", -2, x.place(1));
        Due.is("part 1", -21, x.lead(1));
        Due.is("it isn't CHECKED", NONE, x.check(3, 0, 0));
        Due.is("that TICK is", 0, x.check(2, 0, 0));
    }

    private static void marksHaveRoom() {
        Due.of("MARKS (at most 6: a place and a height); NONE if place (-19 .. 19) or height (0 .. 40) can't be, or 6 came");
        ShipSways x = raft(0, 0);
        Due.is("wetted(0) of none", NONE, x.wetted(0));
        for (int place : new int[] {MIN, -20, 20, MAX}) {
            Due.is("place " + place, NONE, x.mark(place, 0));
        }
        for (int height : new int[] {MIN, -1, 41, MAX}) {
            Due.is("height " + height, NONE, x.mark(0, height));
        }
        Due.is("none came", 0, x.count(5));
        int[][] right = {{-19, 0}, {19, 0}, {0, 0}, {0, 40}, {-19, 40}, {19, 40}};
        for (int i = 0; i < 6; i++) {
            Due.is("refused between", NONE, x.mark(20, 0));
            Due.is("wetted ahead of it", NONE, x.wetted(i));
            Due.is("mark " + i, i, x.mark(right[i][0], right[i][1]));
            Due.is("MARKS", i + 1, x.count(5));
            Due.is("none was at first", 0, x.wetted(i));
        }
        Due.is("a seventh", NONE, x.mark(0, 0));
        Due.is("MARKS", 6, x.count(5));
        x.go(1);
        for (int i = 0; i < 6; i++) {
            Due.is("wetted(" + i + ")", right[i][1] == 0 ? 1 : 0, x.wetted(i));
        }
        for (int number : new int[] {MIN, -1, 6, MAX}) {
            Due.is("wetted(" + number + ")", NONE, x.wetted(number));
        }
    }

    private static void wet() {
        Due.of("MARKS that are WET now (as a BOX there would be, at the new SLOPE)");
        // SLOPE 1 behind the first TICK, where the LEVEL is 900 less 17.
        for (int side = 1; side >= -1; side -= 2) {
            ShipSways x = new ShipSways();
            x.slice(1, 9, 0);
            x.weight(1, 0, 0, NONE);
            x.set(0, 1000000);
            x.set(2, 1);
            x.wave(1, 64, side > 0 ? STARBOARD : PORT);
            x.mark(side * 17, 9);
            x.mark(side * 16, 9);
            x.mark(side * 17, 8);
            x.mark(side * -17, 9);
            x.mark(side * -19, 8);
            x.go(1);
            Due.is("SLOPE", side, x.kept(0, 0));
            int[] due = {1, 0, 1, 0, 1};
            for (int i = 0; i < due.length; i++) {
                Due.is("wetted(" + i + ")", due[i], x.wetted(i));
            }
            Due.is("LEVEL", 883, x.at(side, 0));
        }
    }

    private static void wettedOnce() {
        Due.of("and weren't behind the TICK ahead (none was at first) are WETTED once more");
        ShipSways x = raft(0, 0);
        x.mark(0, 2);
        Due.is("told is not WETTED", 0, x.wetted(0));
        x.go(3);
        Due.is("LEVEL 300", 300, x.at(0, 0));
        Due.is("once", 1, x.wetted(0));
        x.lose(0);
        x.weight(300, 0, 0, NONE);
        Due.is("LEVEL 100", 100, x.at(0, 0));
        Texts.rule(x, "work wet = 1;");
        Due.is("as (5) found them last", 1, x.holds(0));
        x.go(1);
        Due.is("not WET", 0, x.holds(0));
        x.weight(100, 0, 0, NONE);
        Due.is("not WET ahead of a TICK", 0, x.holds(0));
        x.go(1);
        Due.is("WET again", 1, x.holds(0));
        Due.is("twice", 2, x.wetted(0));
        x.mark(0, 0);
        Due.is("a new one isn't WET yet", 1, x.holds(0));
        x.go(1);
        Due.is("it is now", 0, x.holds(0));
        Due.is("WETTED", 1, x.wetted(1));
        Due.is("still twice", 2, x.wetted(0));
    }

    private static void kept() {
        Due.of("What was kept of a TICK that went; VOID for others, or another TICK");
        ShipSways x = raft(5, STARBOARD);
        Due.is("none went", VOID, x.kept(0, 0));
        x.go(2);
        int[][] due = {{5, 5, 5}, {15, 10, 5}};
        for (int tick = 0; tick < 2; tick++) {
            for (int what = 0; what <= 2; what++) {
                Due.is("kept(" + tick + ", " + what + ")", due[tick][what], x.kept(tick, what));
            }
            for (int what : new int[] {MIN, -1, 3, MAX}) {
                Due.is("kept(" + tick + ", " + what + ")", VOID, x.kept(tick, what));
            }
        }
        for (int tick : new int[] {MIN, -1, 2, 599, 600, MAX}) {
            for (int what = 0; what <= 2; what++) {
                Due.is("kept(" + tick + ", " + what + ")", VOID, x.kept(tick, what));
            }
        }
    }

    private static void lead() {
        Due.of("Part k (0 .. 3) of FORCE in the last TICK that had one (0 ahead of the first); VOID for another k");
        ShipSways x = raft(20, STARBOARD);
        x.set(1, 5);
        x.set(3, 3);
        for (int k = 0; k < 4; k++) {
            Due.is("ahead of the first: lead(" + k + ")", 0, x.lead(k));
        }
        x.tried(3, 0);
        x.still(3);
        Due.is("what is tried isn't led", 0, x.lead(1));
        x.go(2);
        int[] due = {0, 20, -10, -15};
        for (int k = 0; k < 4; k++) {
            Due.is("lead(" + k + ")", due[k], x.lead(k));
        }
        for (int k : new int[] {MIN, -1, 4, MAX}) {
            Due.is("lead(" + k + ")", VOID, x.lead(k));
        }
        ShipSways y = new ShipSways();
        y.wave(60, 64, STARBOARD);
        y.go(5);
        for (int k = 0; k < 4; k++) {
            Due.is("no TICK had one: lead(" + k + ")", 0, y.lead(k));
        }
    }

    private static void forWhatComes() {
        Due.of("All that is told goes for what comes");
        ShipSways x = raft(5, STARBOARD);
        x.mark(0, 0);
        x.go(3);
        int[] before = whatWent(x);
        x.set(0, 1);
        x.set(1, 50);
        x.set(2, 50);
        x.set(3, 9);
        x.wave(60, 64, PORT);
        x.weight(500, 19, 40, 0);
        x.slice(20, 99999, 99999);
        x.mark(0, 40);
        Texts.rule(x, "work 1=2; fin 1=2;");
        int[] after = whatWent(x);
        for (int i = 0; i < before.length; i++) {
            Due.is("what went: " + i, before[i], after[i]);
        }
    }

    private static int[] whatWent(ShipSways x) {
        return new int[] {
            x.kept(0, 0), x.kept(0, 1), x.kept(0, 2), x.kept(1, 0), x.kept(1, 1), x.kept(1, 2), x.kept(2, 0), x.kept(2, 1), x.kept(2, 2),
            x.lead(0), x.lead(1), x.lead(2), x.lead(3), x.count(0), x.count(7), x.count(8), x.count(9), x.wetted(0),
            x.check(0, 0, 0), x.check(1, 1, 0), x.check(2, 2, 0), x.check(2, 2, 1), x.tried(0, 0)
        };
    }
}
