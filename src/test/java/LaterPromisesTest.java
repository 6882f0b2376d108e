/** The promises from texts on, by hand: what is ordinary, the edges, and what is refused. */
public final class LaterPromisesTest {
    private static final int NONE = ShipSways.NONE;
    private static final int VOID = ShipSways.VOID;
    private static final int MAX = Integer.MAX_VALUE;
    private static final int MIN = Integer.MIN_VALUE;

    private LaterPromisesTest() {
    }

    public static void main(String[] args) {
        fault();
        faultDepth();
        rules();
        holdsArithmetic();
        holdsNames();
        tried();
        still();
        hourAndBegin();
        best();
        bestOfMany();
        recordAndClear();
        readAndGoes();
        check();
        count();
        wetted();
        refusedChangesNothing();
        Due.end();
    }

    private static ShipSways barge() {
        ShipSways x = new ShipSways();
        x.slice(10, 55555, 0);
        x.weight(200, 0, 1, NONE);
        return x;
    }

    private static void fault() {
        String[] right = {
            "", " ", "work 1=1;", "fin 1<2;", "work 1=1;fin 2>1;", "fin 1=1; work 1=1;  ", "work[1=1];", "work not 1=1;",
            "work[[1=1]or[2=2]];", "work 1=1 and 2=2 or 3=3 and not 4=4;", "work(1)=(2);", "fin 1+2*3-4/5=6;", "work not[1=1]and 2=2;",
            "work slope=1and speed=2or tick=3;", "work 00000000000000000000009999=1;", "fin sick+sea+wet+moved>0;"
        };
        for (String text : right) {
            Due.is("fault of " + text, NONE, Texts.fault(new ShipSways(), text));
        }
        fault("x", 0);
        fault("  wor 1=1;", 2);
        fault("worker 1=1;", 0);
        fault("workz 1=1;", 0);
        fault("worka 1=1;", 0);
        fault("azaz", 0);
        fault("work 1=1; azaz", 10);
        fault("work", 4);
        fault("work ", 5);
        fault("work 1", 6);
        fault("work 1 ", 7);
        fault("work 1;", 6);
        fault("work 1=1", 8);
        fault("work 1=1 or", 11);
        fault("work 1=1 or;", 11);
        fault("work 1=1 1", 9);
        fault("work 1=;", 7);
        fault("work =1;", 5);
        fault("work 1<2<3;", 8);
        fault("work 1+;", 7);
        fault("work -1=1;", 5);
        fault("work 1--1=1;", 7);
        fault("work (1=1);", 7);
        fault("work (1;", 7);
        fault("work ();", 6);
        fault("work [1];", 7);
        fault("work [1=1;", 9);
        fault("work [1=1)=1;", 9);
        fault("work 1=1];", 8);
        fault("work 1=1);", 8);
        fault("work [1=1]=1;", 10);
        fault("work [1=1]+1=1;", 10);
        fault("work ([1=1])=1;", 6);
        fault("work 1=not 1;", 7);
        fault("work 1=[1=1];", 7);
        fault("work 1 and 2=2;", 7);
        fault("work not;", 8);
        fault("work or=1;", 5);
        fault("work work=1;", 5);
        fault("work slopes=1;", 5);
        fault("work 1=1; work 1=1;", 10);
        fault("fin 1=1;work 1=1;fin 1=1;", 17);
        fault("work 1=1;;", 9);
        fault(";", 0);
        fault("1", 0);
        fault("work 10000=1;", 5);
        fault("work 1=99999999999999999999;", 7);
        fault("work 4294967297=1;", 5);
        fault("work 1=1 10000;", 9);
        fault("work 1=1 $;", 9);
        fault("work 1$=1;", 6);
        fault("work 1=1; Fin", 10);
        fault("work ; $", 5);
        fault("$ x", 0);
        fault("work\t1=1;", 4);
        fault("work\n1=1;", 4);
        fault("wor\u00e9", 0);
        fault("work\u00e9", 4);
        fault("work 1=1;\u0000", 9);
        fault("work 1=1 {", 9);
        fault("work 1=1 `", 9);
        fault("work 1=1 :", 9);
    }

    private static void fault(String text, int place) {
        ShipSways x = new ShipSways();
        Due.is("fault of " + text, place, Texts.fault(x, text));
        Due.no("rules of " + text, x.rules());
        Due.is("it stays: " + text, text.length(), x.count(6));
    }

    private static void faultDepth() {
        Due.is("8 (", NONE, Texts.fault(new ShipSways(), "fin ((((((((1))))))))=1;"));
        fault("fin (((((((((1)))))))))=1;", 12);
        Due.is("8 [", NONE, Texts.fault(new ShipSways(), "fin [[[[[[[[1=1]]]]]]]];"));
        fault("fin [[[[[[[[[1=1]]]]]]]]];", 12);
        Due.is("8 mixed", NONE, Texts.fault(new ShipSways(), "fin not[not[not[not[1=1]]]];"));
        fault("fin not[not[not[not[not 1=1]]]];", 20);
        fault("fin not[not[not[not[(1)=1]]]];", 20);
        fault("fin not[not[not[not[1=(1)]]]];", 22);
        // What is closed isn't deep any more.
        Due.is("side by side", NONE, Texts.fault(new ShipSways(),
            "fin not not not not 1=1 and not not not not not not not not 1=1 and [[[[[[[[1=1]]]]]]]] or not not [((((1))))=((((1))))];"));
        Due.is("and again", NONE, Texts.fault(new ShipSways(), "fin (1)+(1)+(1)+(1)+(1)+(1)+(1)+(1)+(1)+(1)=((((((((1))))))));"));
        Due.is("a new clause", NONE, Texts.fault(new ShipSways(), "fin [[[[[[[[1=1]]]]]]]]; work [[[[[[[[1=1]]]]]]]];"));
    }

    private static void rules() {
        ShipSways x = new ShipSways();
        Texts.put(x, "work 1=2;");
        Due.is("not yet", 1, x.holds(0));
        Due.is("asked for its FAULT alone", NONE, x.fault());
        Due.is("not yet", 1, x.holds(0));
        Due.yes("rules()", x.rules());
        Due.is("TEXT is empty", 0, x.count(6));
        Due.is("work", 0, x.holds(0));
        Due.is("without a CLAUSE", 1, x.holds(1));
        Texts.put(x, "fin 1=2; work 1=1");
        Due.no("rules() with a FAULT", x.rules());
        Due.is("it stays", 17, x.count(6));
        Due.is("work as it was", 0, x.holds(0));
        Due.is("fin as it was", 1, x.holds(1));
        Texts.rule(x, "fin 1=2;");
        Due.is("in place of all", 1, x.holds(0));
        Due.is("fin", 0, x.holds(1));
        Texts.rule(x, "");
        Due.is("none", 1, x.holds(0));
        Due.is("none", 1, x.holds(1));
        Due.is("holds(-1)", NONE, x.holds(-1));
        Due.is("holds(2)", NONE, x.holds(2));
        Due.is("holds(MIN)", NONE, x.holds(MIN));
        // 300 bytes, nearly each of them a code.
        Texts.rule(x, "work  1" + "+1".repeat(145) + "=0;");
        Due.is("a long one", 0, x.holds(0));
        Texts.rule(x, "fin 1" + "+1".repeat(144) + "=145;");
        Due.is("a long one", 1, x.holds(1));
    }

    private static void holdsArithmetic() {
        String[] yes = {
            "1+2*3=7", "(1+2)*3=9", "10-4-3=3", "100/10/5=2", "7/2=3", "(0-7)/2=0-3", "7/0=0", "0/0=0", "2*3/4=1", "3/4*2=0",
            "9999*9999=1000*1000", "0-9999*9999=0-1000*1000", "9999*9999+1=1000*1000", "9999*9999-1=999*1000+999",
            "(0-9999*9999)*9999=0-9999*9999", "9999*100+100=1000*1000", "9999*9999-9999*9999=0",
            "1<2", "2>1", "not 2<1", "not 1>1", "not 1<1", "1=1 or 1=2 and 1=2", "not 1=2 and 1=1", "not[1=2 and 1=1]",
            "[1=1 or 1=2]and 1=1", "not not 1=1", "1=2 or 1=1", "1=2 and 1=2 or 1=1", "not 1=2 or 1=1", "not[1=1]or 1=1",
            "08=8", "1000*1000=9999*9999", "5-3+2=4", "1=2 or not 1=1 or 3=3"
        };
        for (String c : yes) {
            holds(c, 1);
        }
        deepest();
        String[] no = {"1=2", "2<1", "1>2", "[1=1 or 1=2]and 1=2", "not[1=1 or 1=2]", "not 1=1 and 1=1", "1=1 and not 1=1", "not[not[1=2]]"};
        for (String c : no) {
            holds(c, 0);
        }
    }

    /** As much as can wait: on each of the levels what joins, with the level behind it. */
    private static void deepest() {
        ShipSways x = new ShipSways();
        for (int brackets = 0; brackets <= 8; brackets++) {
            int parens = 8 - brackets;
            String end = "1+1*".concat("(2+1*".repeat(parens)) + "1" + ")".repeat(parens);
            int value = 2 + 2 * parens;
            String text = "1=2 or 1=1 and[".repeat(brackets) + "1=2 or 1=1 and " + end + "=" + end + "-0*" + value + "]".repeat(brackets);
            Texts.rule(x, "work " + text + ";");
            Due.is("work " + text, 1, x.holds(0));
            Texts.rule(x, "work " + text.replace("-0*", "-") + ";");
            Due.is("work, but not the same: " + text, 0, x.holds(0));
        }
    }

    private static void holds(String condition, int want) {
        ShipSways x = new ShipSways();
        Texts.rule(x, "work " + condition + "; fin not[" + condition + "];");
        Due.is("work " + condition, want, x.holds(0));
        Due.is("fin not[" + condition + "]", 1 - want, x.holds(1));
    }

    private static void holdsNames() {
        ShipSways x = barge();
        x.wave(60, 16, 4);
        x.mark(0, 0);
        x.mark(0, 40);
        x.weight(1, 0, 0, 2);
        now(x, "slope=0 and speed=0 and tick=0 and sick=0 and sea=60 and wet=0 and moved=0");
        x.go(1);
        now(x, "slope=15 and speed=15 and tick=1 and sick=11 and sea=55 and wet=1 and moved=0");
        x.tried(9, 0);
        now(x, "slope=15 and speed=15 and tick=1 and sick=11 and sea=55 and wet=1 and moved=0");
        x.lose(0);
        x.lose(1);
        now(x, "wet=1");
        // In a TICK: fin is asked behind (1) by what was ahead, work behind what SPEED has made.
        ShipSways y = barge();
        y.wave(60, 16, 4);
        y.mark(0, 0);
        y.weight(1, 0, 0, 2);
        y.set(3, 4);
        Texts.rule(y, "fin slope=15 and speed=15 and tick=1 and sick=11 and sea=55 and wet=1 and moved=1;"
            + "work slope=15 and speed=15 and tick=0 and sick=11 and sea=60 and wet=0 and moved=0;");
        y.go(1);
        Due.is("worked in TICK 0", 1, y.count(8));
        y.go(1);
        Due.is("fin held in TICK 1", -15, y.lead(3));
        Due.is("work didn't", 1, y.count(8));
    }

    private static void now(ShipSways x, String condition) {
        Texts.rule(x, "work " + condition + ";");
        Due.is("NOW " + condition, 1, x.holds(0));
        Texts.rule(x, "");
    }

    private static void tried() {
        ShipSways x = barge();
        x.wave(10, 16, 0);
        int[][] wrong = {{-1, 0}, {121, 0}, {0, -1}, {0, 3}, {MIN, 0}, {MAX, 0}, {5, MAX}};
        for (int[] w : wrong) {
            Due.is("tried refused", NONE, x.tried(w[0], w[1]));
        }
        Due.is("tried(0, 0)", 0, x.tried(0, 0));
        Due.is("tried(4, 0)", 4, x.tried(4, 0));
        Due.is("tried(4, 2)", 4, x.tried(4, 2));
        Due.is("nothing is changed", 0, x.count(0));
        Due.is("nothing is changed", 0, x.count(8));
        // A ship each: one is good for 512 calls.
        for (int round = 0; round < 6; round++) {
            foreseen(round);
        }
        ShipSways y = barge();
        y.wave(60, 16, 4);
        y.weight(1, 0, 0, 0);
        y.mark(0, 0);
        y.tried(120, 0);
        Due.is("goods lie still", 0, y.place(1));
        Due.is("no deck is wet", 0, y.wetted(0));
        Due.is("not OVER", 0, y.count(9));
        Due.is("nothing kept", VOID, y.kept(0, 0));
    }

    private static void foreseen(int round) {
        ShipSways x = barge();
        x.wave(10, 16, 0);
        for (int i = 0; i < round; i++) {
            x.go(100);
        }
        int from = x.count(0);
        int greatest = Math.abs(round == 0 ? 0 : x.kept(from - 1, 0));
        int foreseen = x.tried(100, 0);
        int sick = x.tried(100, 1);
        int worked = x.tried(100, 2);
        x.go(100);
        for (int t = from; t < from + 100; t++) {
            greatest = Math.max(greatest, Math.abs(x.kept(t, 0)));
        }
        Due.is("greatest SLOPE foreseen", greatest, foreseen);
        Due.is("SICK foreseen", x.count(7), sick);
        Due.is("WORKED foreseen", x.count(8), worked);
        if (round == 5) {
            Due.is("at the end", 600, x.count(0));
            Due.is("none beyond 599", Math.abs(x.kept(599, 0)), x.tried(120, 0));
            Due.is("none beyond 599", 600, x.tried(120, 2));
        }
    }

    private static void still() {
        ShipSways x = barge();
        Due.is("still(-1)", NONE, x.still(-1));
        Due.is("still(121)", NONE, x.still(121));
        Due.is("still(MIN)", NONE, x.still(MIN));
        Due.is("all alike: the least", 0, x.still(120));
        x.wave(20, 16, 0);
        x.set(0, 3000);
        for (int n : new int[] {0, 1, 5, 20, 60, 120}) {
            int best = 0;
            int least = MAX;
            for (int fins = 0; fins <= 9; fins++) {
                x.set(3, fins);
                if (x.tried(n, 0) < least) {
                    least = x.tried(n, 0);
                    best = fins;
                }
            }
            x.set(3, 7);
            Due.is("still(" + n + ")", best, x.still(n));
        }
        Due.yes("it isn't always 0", x.still(60) > 0);
        int foreseen = x.tried(60, 0);
        x.still(60);
        Due.is("FINS are as told", foreseen, x.tried(60, 0));
        Texts.rule(x, "fin 1=2;");
        Due.is("FINS that are never out", 0, x.still(60));
    }

    private static void hourAndBegin() {
        ShipSways x = new ShipSways();
        int[][] wrong = {{-1, 4}, {61, 4}, {0, 3}, {0, 65}, {MIN, 4}, {0, MAX}};
        for (int[] w : wrong) {
            Due.is("hour refused", NONE, x.hour(w[0], w[1]));
        }
        // OWN is 16 at first: 60 times 64 by 1.
        Due.is("hour(60, 16)", 1, x.hour(60, 16));
        Due.is("3840 by 10 at 3", 384, x.best(0, NONE));
        Due.is("begin(3)", NONE, x.begin(3));
        Due.is("begin(65)", NONE, x.begin(65));
        Due.is("begin(MIN)", NONE, x.begin(MIN));
        Due.is("the HOUR stays", 1, x.count(10));
        Due.is("OWN stays", 384, x.best(0, NONE));
        Due.is("begin(4)", 1, x.begin(4));
        Due.is("no HOURS", 0, x.count(10));
        for (int i = 1; i <= 12; i++) {
            Due.is("hour", i, x.hour(60, 64));
        }
        Due.is("a thirteenth", NONE, x.hour(60, 64));
        Due.is("12 are", 12, x.count(10));
        Due.is("begin(64)", 12, x.begin(64));
        Due.is("hour(60, 64)", 1, x.hour(60, 64));
        Due.is("OWN 64", 384, x.best(0, NONE));
        Due.is("begin(16)", 1, x.begin(16));
    }

    private static void best() {
        ShipSways x = new ShipSways();
        Due.is("no HOURS, no MILES", 0, x.best(0, NONE));
        Due.is("no HOURS, a MILE", NONE, x.best(1, NONE));
        Due.is("no such HOUR", NONE, x.best(0, 0));
        x.hour(10, 16);
        x.hour(20, 18);
        // QUEASY by 0 .. 3 MILES: 640 320 128 64, and 256 640 1280 640.
        int[] least = {320, 320, 320, 320, 704, 704, 704};
        int[] first = {3, 3, 3, 3, 3, 3, 3};
        int[] second = {0, 0, 0, 0, 1, 3, 3};
        for (int miles = 0; miles <= 6; miles++) {
            Due.is("best(" + miles + ", NONE)", least[miles], x.best(miles, NONE));
            Due.is("best(" + miles + ", 0)", first[miles], x.best(miles, 0));
            Due.is("best(" + miles + ", 1)", second[miles], x.best(miles, 1));
        }
        Due.is("best(7, NONE)", NONE, x.best(7, NONE));
        Due.is("best(7, 0)", NONE, x.best(7, 0));
        Due.is("best(MAX, NONE)", NONE, x.best(MAX, NONE));
        Due.is("best(-1, NONE)", NONE, x.best(-1, NONE));
        Due.is("best(MIN, 0)", NONE, x.best(MIN, 0));
        Due.is("best(0, 2)", NONE, x.best(0, 2));
        Due.is("best(0, -2)", NONE, x.best(0, -2));
        Due.is("best(0, MIN)", NONE, x.best(0, MIN));
        Due.is("best(0, MAX)", NONE, x.best(0, MAX));
        // Calm HOURS are all alike: few MILES first.
        x.begin(16);
        for (int i = 0; i < 4; i++) {
            x.hour(0, 20);
        }
        int[] due = {0, 0, 2, 3};
        for (int k = 0; k < 4; k++) {
            Due.is("calm: best(5, " + k + ")", due[k], x.best(5, k));
        }
        Due.is("calm: no QUEASY", 0, x.best(12, NONE));
    }

    private static void bestOfMany() {
        ShipSways x = new ShipSways();
        Plain p = new Plain();
        for (int i = 0; i < 12; i++) {
            int height = (i * 23 + 7) % 61;
            int period = 4 + (i * 11 + 5) % 20;
            Due.is("hour", p.hour(height, period), x.hour(height, period));
        }
        for (int miles : new int[] {0, 20, 29, 36}) {
            for (int k = -1; k < 12; k += 4) {
                Due.is("best(" + miles + ", " + k + ")", p.best(miles, k), x.best(miles, k));
            }
        }
    }

    private static void recordAndClear() {
        ShipSways x = new ShipSways();
        Due.is("record(81)", NONE, x.record(81));
        Due.is("record(-81)", NONE, x.record(-81));
        Due.is("record(MIN)", NONE, x.record(MIN));
        Due.is("clear() of nothing", 0, x.clear());
        for (int i = 1; i <= 64; i++) {
            Due.is("record", i, x.record(i % 2 == 0 ? 80 : -80));
        }
        Due.is("a 65th", NONE, x.record(0));
        Due.is("64 are", 64, x.count(11));
        Due.is("squares", 64 * 6400, x.read(2));
        Due.is("rises", 32, x.read(1));
        Due.is("clear()", 64, x.clear());
        Due.is("none are", 0, x.count(11));
        Due.is("squares of none", 0, x.read(2));
        Due.is("record again", 1, x.record(-7));
        Due.is("the greatest, either way", 7, x.read(3));
    }

    private static void readAndGoes() {
        ShipSways x = new ShipSways();
        Due.is("SEEN of nothing", NONE, x.read(0));
        Due.is("read(-1)", VOID, x.read(-1));
        Due.is("read(4)", VOID, x.read(4));
        Due.is("read(MAX)", VOID, x.read(MAX));
        for (int n : new int[] {0, -1, 0, 5, -2, -3, 4, -80, 80}) {
            x.record(n);
        }
        Due.is("SEEN without WAVES", NONE, x.read(0));
        Due.is("rises", 3, x.read(1));
        Due.is("squares", 1 + 25 + 4 + 9 + 16 + 6400 + 6400, x.read(2));
        Due.is("greatest", 80, x.read(3));
        x.clear();
        Due.is("goes(0) without", VOID, x.goes(0));
        x.wave(60, 16, 4);
        x.wave(1, 64, 0);
        x.wave(1, 16, 12);
        x.wave(1, 16, 4);
        Due.is("SEEN without numbers", NONE, x.read(0));
        Due.is("goes of nothing", 0, x.goes(0));
        x.record(10);
        x.record(-20);
        Due.is("goes(0): HEIGHT doesn't count", 10 * 1000 - 20 * 924, x.goes(0));
        Due.is("goes(1)", 0, x.goes(1));
        Due.is("goes(2)", -10 * 1000 + 20 * 924, x.goes(2));
        Due.is("goes(3)", 10 * 1000 - 20 * 924, x.goes(3));
        Due.is("goes(4)", VOID, x.goes(4));
        Due.is("goes(-1)", VOID, x.goes(-1));
        Due.is("SEEN: of like ones the least", 0, x.read(0));
        ShipSways y = new ShipSways();
        y.wave(60, 64, 0);
        y.record(1);
        Due.is("SEEN goes by 0", 0, y.read(0));
        y.wave(1, 4, 12);
        Due.is("SEEN goes by -1000", 1, y.read(0));
    }

    private static void check() {
        ShipSways x = barge();
        x.wave(10, 16, 0);
        Due.is("no TICK", NONE, x.check(0, 0, 0));
        x.go(4);
        x.set(2, 1);
        x.go(1);
        x.set(2, 50);
        for (int t = 0; t < 5; t++) {
            for (int number = 0; number < 3; number++) {
                Due.is("check(" + t + ", " + number + ", 0)", 0, x.check(t, number, 0));
            }
            Due.is("SLOPE altered", 2, x.check(t, 0, 1));
            Due.is("SLOPE altered", 2, x.check(t, 0, MIN));
            Due.is("SPEED altered", 1, x.check(t, 1, 1));
            Due.is("SPEED altered", 1, x.check(t, 1, -1));
        }
        // FORCE 7 by 4 is 1, and so is 6 by 4; 3 by 4 isn't.
        Due.is("FORCE 7 to 6", 0, x.check(2, 2, 1));
        Due.is("FORCE 7 to 3", 1, x.check(2, 2, 4));
        Due.is("FORCE by INERT 1", 1, x.check(4, 2, 1));
        Due.is("FORCE far off", 1, x.check(4, 2, 0x7fffff00));
        Due.is("check(-1, 0, 0)", NONE, x.check(-1, 0, 0));
        Due.is("check(5, 0, 0)", NONE, x.check(5, 0, 0));
        Due.is("check(0, -1, 0)", NONE, x.check(0, -1, 0));
        Due.is("check(0, 3, 0)", NONE, x.check(0, 3, 0));
        Due.is("check(MAX, MIN, 0)", NONE, x.check(MAX, MIN, 0));
        heldAndChecked();
    }

    private static void heldAndChecked() {
        // SPEED 30 and SLOPE 80 are held: a FORCE far above makes no other SPEED, even as an int would wrap.
        ShipSways x = new ShipSways();
        x.slice(20, 99999, 99999);
        x.weight(500, 19, 40, NONE);
        x.set(0, 1);
        x.set(2, 1);
        x.go(4);
        Due.is("SLOPES 30, 60, 80 and OVER", 80, x.kept(2, 0));
        Due.is("held SPEED", 30, x.kept(1, 1));
        Due.is("held SPEED", 0, x.check(1, 2, 1));
        Due.is("held SPEED, the greatest FORCE", 0, x.check(1, 2, x.kept(1, 2) ^ MAX));
        Due.is("held SPEED, the least FORCE", 1, x.check(1, 2, x.kept(1, 2) ^ MIN));
        Due.is("held SLOPE", 0, x.check(2, 0, 0));
        Due.is("SLOPE 90 isn't held", 2, x.check(2, 0, 80 ^ 90));
        Due.is("OVER ahead of it", NONE, x.check(3, 0, 0));
    }

    private static void count() {
        ShipSways x = barge();
        x.weight(5, 0, 0, NONE);
        x.weight(6, 0, 0, NONE);
        x.lose(1);
        for (int i = 0; i < 3; i++) {
            x.tank(1, 1, 9);
        }
        x.fill(2, 9);
        for (int i = 0; i < 4; i++) {
            x.wave(1, 4, 0);
        }
        for (int i = 0; i < 5; i++) {
            x.mark(0, 0);
        }
        x.feed(0, 0, 0, 0, 0);
        x.hour(1, 4);
        x.record(1);
        x.record(2);
        x.go(7);
        int[] due = {7, 1, 3, 3, 4, 5, 20, 0, 7, 0, 1, 2, 215};
        for (int what = 0; what < due.length; what++) {
            Due.is("count(" + what + ")", due[what], x.count(what));
        }
        Due.is("count(-1)", NONE, x.count(-1));
        Due.is("count(13)", NONE, x.count(13));
        Due.is("count(MIN)", NONE, x.count(MIN));
    }

    private static void wetted() {
        // At rest the LEVEL is 300: 3 is WET, 4 isn't; WET and WET again is once.
        ShipSways x = barge();
        Due.is("mark(0, 3)", 0, x.mark(0, 3));
        Due.is("mark(0, 4)", 1, x.mark(0, 4));
        Due.is("told is not yet WETTED", 0, x.wetted(0));
        x.go(5);
        Due.is("once", 1, x.wetted(0));
        Due.is("never", 0, x.wetted(1));
        Due.is("weight", 1, x.weight(100, 0, 1, NONE));
        Due.is("lower: LEVEL", 500, x.at(0, 0));
        Due.is("not before a TICK", 0, x.wetted(1));
        x.go(1);
        Due.is("once", 1, x.wetted(1));
        Due.is("still once", 1, x.wetted(0));
        x.lose(1);
        x.go(1);
        x.weight(100, 0, 1, NONE);
        x.go(1);
        Due.is("twice", 2, x.wetted(1));
        Due.is("a new one", 2, x.mark(0, 0));
        x.go(1);
        Due.is("a new one", 1, x.wetted(2));
        // By the new SLOPE: 15 behind the first TICK, so that the side at 15 goes under.
        ShipSways y = barge();
        y.wave(60, 16, 4);
        int level = y.at(15, 0);
        int height = (level + 15 * 15) / 100;
        y.mark(15, height);
        y.mark(15, height + 1);
        y.mark(-15, height);
        y.go(1);
        Due.is("the low side", 1, y.wetted(0));
        Due.is("just above", 0, y.wetted(1));
        Due.is("the high side", 0, y.wetted(2));
    }

    private static void refusedChangesNothing() {
        ShipSways x = barge();
        x.wave(10, 16, 3);
        x.mark(3, 3);
        x.hour(5, 5);
        x.record(5);
        x.tank(3, 3, 3);
        x.go(3);
        int[] before = state(x);
        x.slice(0, 1, 1);
        x.weight(1, 1, 1, 99);
        x.lose(5);
        x.tank(0, 1, 1);
        x.fill(0, 4);
        x.mark(30, 1);
        x.wave(1, 1, 1);
        x.set(0, 0);
        x.go(-3);
        x.end(5);
        x.hour(70, 7);
        x.begin(99);
        x.best(-3, 0);
        x.record(99);
        x.tried(500, 0);
        x.still(500);
        int[] after = state(x);
        for (int i = 0; i < before.length; i++) {
            Due.is("state " + i, before[i], after[i]);
        }
    }

    private static int[] state(ShipSways x) {
        int[] all = new int[20];
        for (int what = 0; what <= 12; what++) {
            all[what] = x.count(what);
        }
        all[13] = x.at(5, 2);
        all[14] = x.sea(7);
        all[15] = x.wetted(0);
        all[16] = x.best(0, NONE);
        all[17] = x.read(2);
        all[18] = x.tried(30, 0);
        all[19] = x.still(30);
        return all;
    }
}
