/** ==== 4. of the document, sentence by sentence: what is TRIED, HOURS, the RECORD and CHECKED TICKS at their edges. */
public final class VoyageEdgesTest {
    private static final int NONE = ShipSways.NONE;
    private static final int VOID = ShipSways.VOID;
    private static final int MAX = Integer.MAX_VALUE;
    private static final int MIN = Integer.MIN_VALUE;
    private static final int STARBOARD = 4;
    private static final int PORT = 12;

    private VoyageEdgesTest() {
    }

    public static void main(String[] args) {
        triedBounds();
        triedAtTheEnd();
        triedSlope();
        triedSickAndWorked();
        triedOver();
        triedChangesNothing();
        stillBounds();
        stillLeast();
        hoursHaveRoom();
        hourBounds();
        beginBounds();
        queasy();
        milesOfWay();
        bestBounds();
        likeWays();
        recordHasRoom();
        cleared();
        rises();
        squaresAndGreatest();
        goesAlong();
        seen();
        readBounds();
        checkBounds();
        checkMasks();
        checkHeld();
        checkOwnTick();
        countBounds();
        Due.end();
    }

    /** Swims upright and swings by THE SEA alone, in the TICKS 0 .. 3 by the same push: SPEED is more by all of it. */
    private static ShipSways raft(int push, int phase) {
        ShipSways x = new ShipSways();
        x.slice(20, 99999, 99999);
        x.weight(400, 0, 0, NONE);
        x.set(0, 1000000);
        x.set(1, 0);
        x.set(2, 1);
        x.wave(push, 64, phase);
        return x;
    }

    private static void goTo(ShipSways x, int tick) {
        for (int i = 0; i < 7 && x.count(0) < tick; i++) {
            x.go(Math.min(100, tick - x.count(0)));
        }
        Due.is("NOW", tick, x.count(0));
    }

    private static void triedBounds() {
        Due.of("TRIED are n TICKS from NOW on (0 .. 120; ..); NONE for others, or if n can't be");
        ShipSways x = raft(1, STARBOARD);
        for (int what = 0; what <= 2; what++) {
            for (int n : new int[] {MIN, -1, 121, 600, MAX}) {
                Due.is("tried(" + n + ", " + what + ")", NONE, x.tried(n, what));
            }
            Due.is("tried(0, " + what + ")", 0, x.tried(0, what));
            Due.yes("tried(120, " + what + ")", x.tried(120, what) >= 0);
        }
        for (int what : new int[] {MIN, -1, 3, MAX}) {
            for (int n : new int[] {0, 1, 120}) {
                Due.is("tried(" + n + ", " + what + ")", NONE, x.tried(n, what));
            }
        }
        Due.is("1, 3, 6", 6, x.tried(3, 0));
    }

    private static void triedAtTheEnd() {
        Due.of("none beyond 599");
        for (int now : new int[] {479, 480, 481, 599, 600}) {
            ShipSways x = Fleet.ship("barge");
            goTo(x, now);
            for (int n : new int[] {0, 1, 119, 120}) {
                Due.is("WORKED by " + n + " from " + now, Math.min(600, now + n), x.tried(n, 2));
            }
            Due.is("none", NONE, x.tried(121, 2));
            Due.is("none", NONE, x.tried(-1, 2));
            Due.is("NOW", now, x.count(0));
        }
        // In the last TICK THE SEA pushes, and not in one behind it.
        ShipSways x = raft(20, STARBOARD);
        x.set(2, 50);
        goTo(x, 597);
        ShipSways y = raft(20, STARBOARD);
        y.set(2, 50);
        goTo(y, 600);
        Due.is("SICK at the end", y.count(7), x.tried(120, 1));
        int greatest = 0;
        for (int t = 596; t < 600; t++) {
            greatest = Math.max(greatest, Math.abs(y.kept(t, 0)));
        }
        Due.is("SLOPE at the end", y.count(9) == 1 ? 80 : greatest, x.tried(120, 0));
    }

    private static void triedSlope() {
        Due.of("the greatest SLOPE (either way, also as it is NOW)");
        int[] slopes = {0, 5, 15, 30, 50};
        for (int phase : new int[] {STARBOARD, PORT}) {
            ShipSways x = raft(5, phase);
            for (int n = 0; n <= 4; n++) {
                Due.is("tried(" + n + ", 0)", slopes[n], x.tried(n, 0));
            }
            // 5 less 75 turns SPEED about at once, to -30.
            x.go(3);
            Due.is("tried(0, 0)", 30, x.tried(0, 0));
            x.set(1, 50);
            Due.is("NOW is the greatest", 30, x.tried(1, 0));
            x.go(1);
            Due.yes("it isn't any more", Math.abs(x.kept(3, 0)) < 30);
            Due.is("tried(0, 0)", Math.abs(x.kept(3, 0)), x.tried(0, 0));
        }
    }

    private static void triedSickAndWorked() {
        Due.of("SICK and WORKED behind them");
        ShipSways x = raft(3, PORT);
        Texts.rule(x, "work speed > 0-7;");
        int[] sick = {0, 0, 2, 7, 15};
        int[] worked = {0, 1, 2, 2, 2};
        for (int n = 0; n <= 4; n++) {
            Due.is("tried(" + n + ", 1)", sick[n], x.tried(n, 1));
            Due.is("tried(" + n + ", 2)", worked[n], x.tried(n, 2));
        }
        wetAhead();
        x.go(3);
        Due.is("all from the first on", 7, x.tried(0, 1));
        Due.is("all from the first on", 15, x.tried(1, 1));
        Due.is("all from the first on", 2, x.tried(1, 2));
    }

    /** The first TICK that is TRIED asks for what the last TICK left. */
    private static void wetAhead() {
        ShipSways x = raft(1, STARBOARD);
        x.mark(0, 0);
        x.weight(1, 0, 0, 0);
        x.go(2);
        Texts.rule(x, "work wet = 1 and moved = 1 and sick = 0 and tick = 2;");
        Due.is("as it is NOW", 3, x.tried(1, 2));
        Texts.rule(x, "work wet = 0 or moved = 0;");
        Due.is("not otherwise", 2, x.tried(3, 2));
    }

    private static void triedOver() {
        Due.of("TRIED TICKS as TICKS go, if it isn't OVER");
        ShipSways x = raft(21, PORT);
        Due.is("it goes OVER", 80, x.tried(3, 0));
        Due.is("and stays", 80, x.tried(120, 0));
        Due.is("SICK: 17, 26, 26", 69, x.tried(120, 1));
        Due.is("WORKED", 3, x.tried(120, 2));
        Due.is("not the ship", 0, x.count(9));
        x.go(3);
        Due.is("OVER ahead", 80, x.tried(120, 0));
        Due.is("OVER ahead", 69, x.tried(120, 1));
        Due.is("OVER ahead", 3, x.tried(120, 2));
        Due.is("still", 0, x.still(120));
        ShipSways y = raft(10, STARBOARD);
        y.go(1);
        for (int i = 0; i < 8; i++) {
            y.weight(500, 0, 0, NONE);
        }
        Due.is("no LEVEL: SLOPE as NOW", 10, y.tried(120, 0));
        Due.is("no LEVEL: SICK as NOW", 6, y.tried(120, 1));
        Due.is("no LEVEL: WORKED as NOW", 1, y.tried(120, 2));
        Due.is("not the ship", 0, y.count(9));
    }

    private static void triedChangesNothing() {
        Due.of("nothing being changed");
        for (String state : Fleet.STATES) {
            ShipSways x = Fleet.ship(state);
            for (int what = 0; what <= 2; what++) {
                x.tried(120, what);
            }
            x.still(120);
            Probe.of(x).isAs("tried and still of " + state, Probe.of(Fleet.ship(state)));
        }
    }

    private static void stillBounds() {
        Due.of("STILL by n TICKS; NONE if n can't be");
        ShipSways x = raft(20, STARBOARD);
        for (int n : new int[] {MIN, -1, 121, 600, MAX}) {
            Due.is("still(" + n + ")", NONE, x.still(n));
        }
        Due.is("still(0)", 0, x.still(0));
        Due.is("still(1), without SPEED", 0, x.still(1));
        Due.yes("still(120)", x.still(120) >= 0 && x.still(120) <= 9);
        ShipSways y = Fleet.ship("spent");
        Due.is("still(120) at 600", 0, y.still(120));
        Due.is("still(121) at 600", NONE, y.still(121));
    }

    private static void stillLeast() {
        Due.of("the number of FINS (0 .. 9) with which the greatest SLOPE TRIED is least, of like ones the least");
        // SPEED 20 at 20: with 8 it stands still at 20, with 9 it turns, and 20 is the greatest of both.
        for (int fins : new int[] {0, 5, 9}) {
            ShipSways x = raft(20, STARBOARD);
            x.go(1);
            x.set(3, fins);
            Due.is("of like ones the least", 8, x.still(1));
            Due.is("as FINS are told: " + fins, fins == 0 ? 50 : fins == 5 ? 35 : 20, x.tried(1, 0));
        }
        // SPEED 20 at 20, and a push that just this number of FINS holds there.
        for (int fins = 0; fins <= 9; fins++) {
            ShipSways x = raft(20, STARBOARD);
            if (fins != 8) {
                x.wave(Math.abs(40 - 5 * fins), 4, fins < 8 ? 8 : 0);
            }
            x.go(1);
            Due.is("SLOPE", 20, x.kept(0, 0));
            Due.is("push", 5 * fins - 20, x.sea(1));
            Due.is("just " + fins, fins, x.still(1));
        }
        // SPEED 30 at 30 and a push of 40: with 9 it is 33, with 8 it is 40.
        for (int phase : new int[] {STARBOARD, PORT}) {
            ShipSways x = raft(40, phase);
            x.go(1);
            Due.is("the greatest", 9, x.still(1));
            Due.is("if n is 0 all are like", 0, x.still(0));
            Texts.rule(x, "fin 1=2;");
            Due.is("if they are never out all are like", 0, x.still(1));
        }
    }

    private static void hoursHaveRoom() {
        Due.of("HOURS of a way, at most 12; NONE if it can't be, or 12 are");
        ShipSways x = new ShipSways();
        for (int i = 1; i <= 12; i++) {
            Due.is("refused between", NONE, x.hour(61, 64));
            Due.is("hour " + i, i, x.hour(60, 64));
            Due.is("HOURS", i, x.count(10));
        }
        int all = x.best(36, NONE);
        Due.is("a thirteenth", NONE, x.hour(0, 4));
        Due.is("HOURS", 12, x.count(10));
        Due.is("the BEST", all, x.best(36, NONE));
        Due.is("MILES in the last", 3, x.best(36, 11));
        Due.is("no thirteenth", NONE, x.best(36, 12));
        Due.is("more MILES", NONE, x.best(37, NONE));
        Due.is("begin", 12, x.begin(16));
        Due.is("room again", 1, x.hour(0, 4));
    }

    private static void hourBounds() {
        Due.of("HEIGHT (0 .. 60) and PERIOD (4 .. 64) of the sea then");
        ShipSways x = new ShipSways();
        for (int height : new int[] {MIN, -1, 61, MAX}) {
            Due.is("HEIGHT " + height, NONE, x.hour(height, 16));
        }
        for (int period : new int[] {MIN, -1, 0, 3, 65, MAX}) {
            Due.is("PERIOD " + period, NONE, x.hour(1, period));
        }
        Due.is("none are", 0, x.count(10));
        Due.is("HEIGHT 0", 1, x.hour(0, 16));
        Due.is("QUEASY of 0", 0, x.best(0, NONE));
        Due.is("HEIGHT 60", 2, x.hour(60, 16));
        Due.is("QUEASY of 60, 3 MILES", 384, x.best(0, NONE));
        Due.is("PERIOD 4", 3, x.hour(60, 4));
        // 4 less 16 is -12: 145, with 3 MILES 226.
        Due.is("QUEASY at 4", 384 + 3840 / 226, x.best(0, NONE));
        Due.is("PERIOD 64", 4, x.hour(60, 64));
        Due.is("QUEASY at 64", 384 + 16 + 3840 / 2305, x.best(0, NONE));
    }

    private static void beginBounds() {
        Due.of("its OWN period (4 .. 64; 16 at first); begin: how many HOURS there were; NONE if it can't be");
        ShipSways x = new ShipSways();
        x.hour(60, 19);
        Due.is("16 at first: 3 MILES", 3840, x.best(3, NONE));
        Due.is("16 at first: 0 MILES", 384, x.best(0, NONE));
        for (int own : new int[] {MIN, -1, 0, 3, 65, MAX}) {
            Due.is("begin(" + own + ")", NONE, x.begin(own));
            Due.is("HOURS", 1, x.count(10));
        }
        x.hour(60, 19);
        Due.is("OWN as it was", 7680, x.best(6, NONE));
        for (int own : new int[] {4, 64, 16}) {
            Due.is("begin(" + own + ")", own == 4 ? 2 : 1, x.begin(own));
            Due.is("HOURS", 0, x.count(10));
            Due.is("no WAY of a MILE", NONE, x.best(1, NONE));
            Due.is("a WAY of none", 0, x.best(0, NONE));
            x.hour(60, Math.min(64, own + 3));
            Due.is("OWN " + own, own == 64 ? 384 : 3840, x.best(3, NONE));
        }
        Due.is("begin", 1, x.begin(5));
        Due.is("begin again", 0, x.begin(5));
    }

    private static void queasy() {
        Due.of("QUEASY is HEIGHT times 64 by 1 and the square of what PERIOD less MILES and its OWN period differ (cut)");
        int[][] rows = {
            // HEIGHT, PERIOD, OWN, and QUEASY of a WAY of at least 0 .. 3 MILES.
            {60, 19, 16, 384, 768, 1920, 3840}, {1, 19, 16, 6, 12, 32, 64}, {7, 20, 16, 26, 44, 89, 224}, {60, 13, 16, 103, 103, 103, 103},
            {0, 16, 16, 0, 0, 0, 0}, {60, 64, 4, 1, 1, 1, 1}, {56, 64, 4, 0, 1, 1, 1}, {60, 4, 64, 0, 0, 0, 0}, {31, 24, 16, 30, 39, 53, 76}
        };
        for (int[] r : rows) {
            ShipSways x = new ShipSways();
            x.begin(r[2]);
            x.hour(r[0], r[1]);
            for (int miles = 0; miles <= 3; miles++) {
                Due.is("HEIGHT " + r[0] + ", PERIOD " + r[1] + ", OWN " + r[2] + ": " + miles, r[3 + miles], x.best(miles, NONE));
            }
        }
    }

    private static void milesOfWay() {
        Due.of("In an HOUR the ship goes 0 .. 3 MILES; A WAY of at least so many MILES in all HOURS");
        ShipSways x = new ShipSways();
        for (int hours = 0; hours <= 12; hours++) {
            Due.yes("best of " + 3 * hours, x.best(3 * hours, NONE) >= 0);
            Due.is("no WAY of " + (3 * hours + 1), NONE, x.best(3 * hours + 1, NONE));
            for (int k = 0; k < hours; k += 5) {
                Due.is("all MILES in " + k, 3, x.best(3 * hours, k));
                Due.is("no WAY, no MILES", NONE, x.best(3 * hours + 1, k));
            }
            x.hour(10, 16 + hours);
        }
        // More than asked for, if that is better: 3 MILES are QUEASY by 384, 0 by 3840.
        ShipSways y = new ShipSways();
        y.hour(60, 16);
        Due.is("at least 0", 384, y.best(0, NONE));
        Due.is("at least 0", 3, y.best(0, 0));
    }

    private static void bestBounds() {
        Due.of("QUEASY in all (k NONE), or MILES in the k-th HOUR; NONE if MILES are below 0, there is no such WAY, or no such HOUR");
        ShipSways x = new ShipSways();
        for (int k : new int[] {MIN, -2, 0, 1, 11, 12, MAX}) {
            Due.is("best(0, " + k + ") without HOURS", NONE, x.best(0, k));
        }
        Due.is("best(0, NONE) without HOURS", 0, x.best(0, NONE));
        for (int miles : new int[] {MIN, -1, 1, 36, 37, MAX}) {
            Due.is("best(" + miles + ", NONE) without HOURS", NONE, x.best(miles, NONE));
        }
        x.hour(10, 16);
        x.hour(20, 18);
        for (int k : new int[] {MIN, -2, 2, 11, 12, MAX}) {
            Due.is("best(0, " + k + ")", NONE, x.best(0, k));
            Due.is("best(6, " + k + ")", NONE, x.best(6, k));
        }
        for (int miles : new int[] {MIN, -1, 7, 36, 37, MAX}) {
            for (int k = NONE; k <= 2; k++) {
                Due.is("best(" + miles + ", " + k + ")", NONE, x.best(miles, k));
            }
        }
        // QUEASY by 0 .. 3 MILES: 640 320 128 64, and 256 640 1280 640.
        Due.is("best(0, NONE)", 64 + 256, x.best(0, NONE));
        Due.is("best(0, 0)", 3, x.best(0, 0));
        Due.is("best(0, 1)", 0, x.best(0, 1));
        Due.is("best(6, NONE)", 64 + 640, x.best(6, NONE));
        Due.is("best(6, 0)", 3, x.best(6, 0));
        Due.is("best(6, 1)", 3, x.best(6, 1));
    }

    private static void likeWays() {
        Due.of("of like ones with the fewer MILES in the first HOUR, then in the second, and so on");
        ShipSways x = new ShipSways();
        for (int i = 0; i < 12; i++) {
            x.hour(0, 4 + 5 * i);
        }
        for (int miles : new int[] {0, 1, 3, 4, 18, 35, 36}) {
            int left = miles;
            for (int k = 11; k >= 0; k -= 1) {
                int due = Math.min(3, left);
                left -= due;
                Due.is("calm: best(" + miles + ", " + k + ")", due, x.best(miles, k));
            }
        }
        // PERIOD 18 less OWN 15: 384, 768, 1920, 3840; two like HOURS and 3 MILES: 1 and 2 is as good as 2 and 1.
        ShipSways y = new ShipSways();
        y.begin(15);
        y.hour(60, 18);
        y.hour(60, 18);
        Due.is("QUEASY", 768 + 1920, y.best(3, NONE));
        Due.is("fewer in the first", 1, y.best(3, 0));
        Due.is("more in the second", 2, y.best(3, 1));
    }

    private static void recordHasRoom() {
        Due.of("A RECORD is numbers (-80 .. 80; at most 64, a row); NONE if it can't be, or 64 are");
        ShipSways x = new ShipSways();
        for (int number : new int[] {MIN, -81, 81, MAX}) {
            Due.is("record(" + number + ")", NONE, x.record(number));
        }
        Due.is("none are", 0, x.count(11));
        for (int i = 1; i <= 64; i++) {
            Due.is("refused between", NONE, x.record(81));
            Due.is("record " + i, i, x.record(i % 2 == 0 ? -80 : 80));
            Due.is("numbers", i, x.count(11));
        }
        Due.is("a 65th", NONE, x.record(0));
        Due.is("numbers", 64, x.count(11));
        Due.is("squares", 64 * 6400, x.read(2));
    }

    private static void cleared() {
        Due.of("The RECORD is empty: how many there were");
        ShipSways x = new ShipSways();
        x.wave(1, 4, 4);
        Due.is("clear() of none", 0, x.clear());
        for (int i = 0; i < 64; i++) {
            x.record(-80);
        }
        Due.is("clear()", 64, x.clear());
        Due.is("clear() again", 0, x.clear());
        Due.is("numbers", 0, x.count(11));
        Due.is("SEEN", NONE, x.read(0));
        for (int what = 1; what <= 3; what++) {
            Due.is("read(" + what + ")", 0, x.read(what));
        }
        Due.is("goes(0)", 0, x.goes(0));
        Due.is("record(7)", 1, x.record(7));
        Due.is("no rise behind what was", 0, x.read(1));
        Due.is("squares", 49, x.read(2));
        Due.is("goes(0)", 7000, x.goes(0));
    }

    private static void rises() {
        Due.of("RISES are numbers of 0 or above behind one below 0");
        int[][] rows = {
            {0}, {0, 0}, {0, 5}, {0, 0, 5}, {0, -5}, {1, -1, 0}, {1, -1, 1}, {0, -1, -1}, {1, -1, -1, 0}, {0, 0, -1}, {0, 1, 0, 1},
            {2, -1, 0, -1, 0}, {1, -80, 80}, {1, -1, 0, 0}, {1, -1, 0, 1}
        };
        for (int[] r : rows) {
            ShipSways x = new ShipSways();
            StringBuilder text = new StringBuilder("rises of");
            for (int i = 1; i < r.length; i++) {
                x.record(r[i]);
                text.append(' ').append(r[i]);
            }
            Due.is(text.toString(), r[0], x.read(1));
        }
    }

    private static void squaresAndGreatest() {
        Due.of("2 the sum of squares, 3 the greatest, either way (0 without)");
        ShipSways x = new ShipSways();
        Due.is("squares without", 0, x.read(2));
        Due.is("greatest without", 0, x.read(3));
        for (int first : new int[] {-80, -1, 0, 1, 80}) {
            ShipSways y = new ShipSways();
            y.record(first);
            Due.is("square of one", first * first, y.read(2));
            Due.is("the only one", Math.abs(first), y.read(3));
        }
        int[][] rows = {{0, 0, 0}, {-3, 9, 3}, {2, 13, 3}, {3, 22, 3}, {4, 38, 4}, {-80, 6438, 80}, {80, 12838, 80}, {1, 12839, 80}};
        for (int[] r : rows) {
            x.record(r[0]);
            Due.is("squares", r[1], x.read(2));
            Due.is("greatest", r[2], x.read(3));
        }
    }

    private static void goesAlong() {
        Due.of("It GOES with a WAVE by the sum of each times that WAVE's SINE (as of TICKS from 0 on); VOID if there is none such");
        ShipSways x = new ShipSways();
        for (int wave : new int[] {MIN, -1, 0, 7, 8, MAX}) {
            Due.is("goes(" + wave + ") without", VOID, x.goes(wave));
        }
        x.wave(60, 4, 4);
        x.wave(1, 64, 4);
        Due.is("of no numbers", 0, x.goes(0));
        for (int i = 0; i < 64; i++) {
            // 1000, 0, -1000, 0 in turn.
            x.record(i % 4 == 0 ? 80 : i % 4 == 2 ? -80 : 0);
        }
        Due.is("the most", 32 * 80000, x.goes(0));
        Due.is("four by four", 0, x.goes(1));
        for (int wave : new int[] {MIN, -1, 2, 8, MAX}) {
            Due.is("goes(" + wave + ")", VOID, x.goes(wave));
        }
        x.clear();
        for (int i = 0; i < 63; i++) {
            x.record(0);
        }
        x.record(-80);
        // TICK 63 by 64: 15, and 4 of the PHASE: 3.
        Due.is("the last of 64", -80 * 924, x.goes(1));
        Due.is("the last of 64", 0, x.goes(0));
    }

    private static void seen() {
        Due.of("SEEN is the WAVE with which it goes by the most, either way, of like ones the least (NONE without WAVES or numbers)");
        ShipSways x = new ShipSways();
        Due.is("without both", NONE, x.read(0));
        x.record(10);
        Due.is("without WAVES", NONE, x.read(0));
        x.wave(60, 4, 0);
        Due.is("by 0", 0, x.read(0));
        x.wave(1, 4, 8);
        Due.is("by 0 both", 0, x.read(0));
        x.wave(1, 4, 1);
        Due.is("by 3830", 2, x.read(0));
        x.wave(1, 4, 12);
        Due.is("by -10000", 3, x.read(0));
        x.wave(1, 4, 4);
        Due.is("by 10000, a like one", 3, x.read(0));
        x.clear();
        Due.is("without numbers", NONE, x.read(0));
        x.record(0);
        Due.is("by 0 all", 0, x.read(0));
    }

    private static void readBounds() {
        Due.of("VOID for others");
        for (String state : new String[] {"bare", "underWay"}) {
            ShipSways x = Fleet.ship(state);
            for (int what : new int[] {MIN, -1, 4, MAX}) {
                Due.is("read(" + what + ")", VOID, x.read(what));
            }
            for (int what = 0; what <= 3; what++) {
                Due.yes("read(" + what + ")", x.read(what) != VOID);
            }
        }
    }

    private static void checkBounds() {
        Due.of("CHECKED: 0 .. 2; NONE if there is none such");
        ShipSways x = raft(5, STARBOARD);
        for (int tick : new int[] {MIN, -1, 0, 599, 600, MAX}) {
            Due.is("check(" + tick + ", ..) of none", NONE, x.check(tick, 0, 0));
        }
        x.go(2);
        for (int number = 0; number <= 2; number++) {
            for (int tick : new int[] {MIN, -1, 2, 599, 600, MAX}) {
                Due.is("check(" + tick + ", " + number + ", 0)", NONE, x.check(tick, number, 0));
            }
            Due.is("the first", 0, x.check(0, number, 0));
            Due.is("the last", 0, x.check(1, number, 0));
        }
        for (int number : new int[] {MIN, -1, 3, MAX}) {
            Due.is("check(0, " + number + ", 0)", NONE, x.check(0, number, 0));
        }
        ShipSways y = Fleet.ship("spent");
        Due.is("TICK 599", 0, y.check(599, 0, 0));
        Due.is("TICK 600", NONE, y.check(600, 0, 0));
    }

    private static void checkMasks() {
        Due.of("altered by a mask (each bit of it turned): 1, if the first isn't so, else 2");
        ShipSways x = raft(8, PORT);
        x.set(2, 4);
        x.go(2);
        for (int tick = 0; tick < 2; tick++) {
            for (int bit = 0; bit < 32; bit++) {
                Due.is("SLOPE, bit " + bit, 2, x.check(tick, 0, 1 << bit));
                Due.is("SPEED, bit " + bit, 1, x.check(tick, 1, 1 << bit));
            }
            for (int mask : new int[] {MIN, -1, MAX}) {
                Due.is("SLOPE, mask " + mask, 2, x.check(tick, 0, mask));
                Due.is("SPEED, mask " + mask, 1, x.check(tick, 1, mask));
                Due.is("FORCE, mask " + mask, 1, x.check(tick, 2, mask));
            }
        }
        // FORCE -8 by 4 is -2, and so is all down to -11; -7 isn't.
        for (int force = -13; force <= -5; force++) {
            boolean like = force <= -8 && force >= -11;
            Due.is("FORCE " + force, like ? 0 : 1, x.check(0, 2, -8 ^ force));
        }
    }

    private static void checkHeld() {
        Due.of("if SPEED is as (3) says by FORCE, .. and SLOPE by it and the SLOPE kept ahead, likewise");
        for (int side = 1; side >= -1; side -= 2) {
            ShipSways x = raft(31, side > 0 ? STARBOARD : PORT);
            x.go(3);
            Due.is("SPEED is held", side * 30, x.kept(0, 1));
            for (int force : new int[] {29, 30, 31, 1000, 1001, 5000000, MAX}) {
                Due.is("FORCE " + force, force < 30 ? 1 : 0, x.check(0, 2, x.kept(0, 2) ^ side * force));
            }
            // SPEED 30 ahead of it: 0 and more is like, though an int would wrap at the greatest.
            for (int force : new int[] {-1, 0, 1, MAX}) {
                Due.is("FORCE " + force, force < 0 ? 1 : 0, x.check(1, 2, x.kept(1, 2) ^ side * force));
            }
            Due.is("SLOPE is held", side * 80, x.kept(2, 0));
            Due.is("80", 0, x.check(2, 0, 0));
            Due.is("90, as if it weren't held", 2, x.check(2, 0, side * 80 ^ side * 90));
            Due.is("79", 2, x.check(2, 0, side * 80 ^ side * 79));
            Due.is("SPEED 31", 1, x.check(0, 1, side * 30 ^ side * 31));
        }
    }

    private static void checkOwnTick() {
        Due.of("INERT of that TICK and the SPEED kept of the TICK ahead (0 ahead of the first)");
        ShipSways x = raft(12, STARBOARD);
        int[] inerts = {1, 4, 50, 3};
        for (int inert : inerts) {
            x.set(2, inert);
            x.go(1);
        }
        x.set(2, 2);
        int[] speeds = {12, 15, 15, 19};
        for (int tick = 0; tick < 4; tick++) {
            Due.is("SPEED", speeds[tick], x.kept(tick, 1));
            Due.is("check(" + tick + ", 2, 0)", 0, x.check(tick, 2, 0));
            // 12 less 4 is 8: by 1 another, by 4 another, by 50 the same, by 3 another.
            Due.is("check(" + tick + ", 2, 4)", tick == 2 ? 0 : 1, x.check(tick, 2, 4));
        }
        Due.is("13 by 4 is 3 too", 0, x.check(1, 2, 1));
        Due.is("13 by 1 isn't 12", 1, x.check(0, 2, 1));
    }

    private static void countBounds() {
        Due.of("count: NONE for others");
        for (String state : Fleet.STATES) {
            ShipSways x = Fleet.ship(state);
            for (int what : new int[] {MIN, -2, -1, 13, 14, MAX}) {
                Due.is("count(" + what + ") of " + state, NONE, x.count(what));
            }
            for (int what = 0; what <= 12; what++) {
                Due.yes("count(" + what + ") of " + state, x.count(what) >= 0);
            }
        }
    }
}
