import java.util.Random;

/** Long runs of calls by chance (of fixed seeds), each answer held against the plain one. */
public final class RunsTest {
    private static final int RUNS = 600;
    /** A ship is good for 512 calls; one step makes 20 at most, and the end of a run 15. */
    private static final int CALLS = 475;

    private final Random dice;
    private final ShipSways x = new ShipSways();
    private final Plain p = new Plain();
    private final int run;
    private int calls;

    private RunsTest(int run) {
        this.run = run;
        this.dice = new Random(run * 7919L + 13);
    }

    public static void main(String[] args) {
        for (int run = 0; run < RUNS && Due.wrongSoFar() < 20; run++) {
            new RunsTest(run).play();
        }
        Due.end();
    }

    private void play() {
        if (run % 2 == 1) {
            steady();
        }
        int built = run % 2 == 1 ? 0 : 12 + dice.nextInt(30);
        for (int i = 0; calls < CALLS && Due.wrongSoFar() < 20; i++) {
            if (i < built) {
                build(dice.nextInt(7));
            } else {
                call(run % 2 == 1 ? 2 + dice.nextInt(62) : dice.nextInt(64));
            }
        }
        for (int what = -1; what < 14; what++) {
            is("count(" + what + ")", p.count(what), x.count(what));
        }
    }

    private void is(String call, long want, long got) {
        calls++;
        Due.is("run " + run + ": " + call, want, got);
    }

    private void is(String call, boolean want, boolean got) {
        is(call, want ? 1 : 0, got ? 1 : 0);
    }

    /** Mostly within least .. most, now and then beside it or far off. */
    private int near(int least, int most) {
        int kind = dice.nextInt(40);
        if (kind == 0) {
            return least - 1;
        }
        if (kind == 1) {
            return most + 1;
        }
        if (kind == 2) {
            return dice.nextInt();
        }
        return least + dice.nextInt(most - least + 1);
    }

    /** A ship that doesn't fall over at once, so that many TICKS have something to tell. */
    private void steady() {
        for (int i = 1 + dice.nextInt(3); i > 0; i--) {
            int length = 5 + dice.nextInt(16);
            int low = 11111 * (5 + dice.nextInt(5)) - dice.nextInt(1111);
            int up = 11111 * (4 + dice.nextInt(6));
            is("slice", p.slice(length, low, up), x.slice(length, low, up));
        }
        int mass = 100 + dice.nextInt(300);
        is("weight", p.weight(mass, 0, 2, -1), x.weight(mass, 0, 2, -1));
        for (int i = dice.nextInt(5); i > 0; i--) {
            int light = 1 + dice.nextInt(12);
            int place = dice.nextInt(11) - 5;
            int slip = dice.nextInt(16) - 1;
            is("weight", p.weight(light, place, 6, slip), x.weight(light, place, 6, slip));
        }
        is("tank", p.tank(5, 3, 30), x.tank(5, 3, 30));
        is("fill", p.fill(0, 11), x.fill(0, 11));
        for (int i = 0; i < 4; i++) {
            int place = dice.nextInt(39) - 19;
            int height = dice.nextInt(12);
            is("mark", p.mark(place, height), x.mark(place, height));
        }
        for (int i = 1 + dice.nextInt(4); i > 0; i--) {
            int height = 1 + dice.nextInt(20);
            int period = 4 + dice.nextInt(61);
            is("wave", p.wave(height, period, i), x.wave(height, period, i));
        }
        int stiff = 1000 + dice.nextInt(6000);
        is("set", p.set(0, stiff), x.set(0, stiff));
        is("set", p.set(1, 8), x.set(1, 8));
        is("set", p.set(3, 2), x.set(3, 2));
    }

    private void build(int kind) {
        int a;
        int b;
        int c;
        int d;
        switch (kind) {
            case 0:
                a = near(1, 20);
                b = dice.nextInt(4) == 0 ? near(0, 99999) : 11111 * (1 + dice.nextInt(9));
                c = near(0, 99999);
                is("slice(" + a + ", " + b + ", " + c + ")", p.slice(a, b, c), x.slice(a, b, c));
                break;
            case 1:
            case 2:
                a = near(1, dice.nextInt(3) == 0 ? 500 : 60);
                b = near(-19, 19);
                c = near(0, dice.nextInt(3) == 0 ? 40 : 9);
                d = dice.nextInt(3) == 0 ? -1 : near(0, dice.nextBoolean() ? 80 : 10);
                is("weight(" + a + ", " + b + ", " + c + ", " + d + ")", p.weight(a, b, c, d), x.weight(a, b, c, d));
                break;
            case 3:
                a = near(1, 9);
                b = near(0, 40);
                c = near(1, 300);
                is("tank(" + a + ", " + b + ", " + c + ")", p.tank(a, b, c), x.tank(a, b, c));
                break;
            case 4:
                a = near(0, 3);
                b = dice.nextBoolean() ? near(0, 300) : near(0, 40);
                is("fill(" + a + ", " + b + ")", p.fill(a, b), x.fill(a, b));
                break;
            case 5:
                a = near(-19, 19);
                b = near(0, 40);
                is("mark(" + a + ", " + b + ")", p.mark(a, b), x.mark(a, b));
                break;
            default:
                a = near(1, dice.nextBoolean() ? 60 : 15);
                b = near(4, 64);
                c = near(0, 15);
                is("wave(" + a + ", " + b + ", " + c + ")", p.wave(a, b, c), x.wave(a, b, c));
                break;
        }
    }

    private void call(int kind) {
        if (kind < 2) {
            build(dice.nextInt(7));
        } else if (kind < 16) {
            move();
        } else if (kind < 30) {
            look();
        } else if (kind < 40) {
            write();
        } else if (kind < 50) {
            ask();
        } else if (kind < 57) {
            sail();
        } else {
            note();
        }
    }

    private void move() {
        int a;
        int b;
        switch (dice.nextInt(8)) {
            case 0:
                if (dice.nextInt(5) == 0) {
                    a = near(0, 11);
                    is("lose(" + a + ")", p.lose(a), x.lose(a));
                }
                break;
            case 1:
                a = dice.nextInt(5);
                b = a == 0 ? (dice.nextInt(4) == 0 ? near(1, 1000000) : near(800, 8000)) : a == 2 ? near(1, 12) : a == 3 ? near(0, 9) : near(0, 50);
                a = a == 4 ? near(0, 3) : a;
                is("set(" + a + ", " + b + ")", p.set(a, b), x.set(a, b));
                break;
            default:
                a = dice.nextInt(6) == 0 ? near(0, 100) : dice.nextInt(4);
                is("go(" + a + ")", p.go(a), x.go(a));
                break;
        }
    }

    private void look() {
        int a;
        int b;
        int c;
        switch (dice.nextInt(10)) {
            case 0:
                a = near(-80, 80);
                b = near(0, 2);
                is("at(" + a + ", " + b + ")", p.at(a, b), x.at(a, b));
                break;
            case 1:
                a = near(0, 3);
                is("rest(" + a + ")", p.rest(a), x.rest(a));
                is("stays(" + a + ")", p.stays(a), x.stays(a));
                break;
            case 2:
                a = near(0, 599);
                is("sea(" + a + ")", p.sea(a), x.sea(a));
                break;
            case 3:
                a = near(0, 12);
                is("count(" + a + ")", p.count(a), x.count(a));
                break;
            case 4:
                a = near(0, 11);
                is("place(" + a + ")", p.place(a), x.place(a));
                break;
            case 5:
                a = near(0, 5);
                is("wetted(" + a + ")", p.wetted(a), x.wetted(a));
                break;
            case 6:
                a = near(0, 3);
                is("lead(" + a + ")", p.lead(a), x.lead(a));
                break;
            case 7:
            case 8:
                a = near(0, Math.max(0, p.count(0) - 1));
                b = near(0, 2);
                is("kept(" + a + ", " + b + ")", p.kept(a, b), x.kept(a, b));
                break;
            default:
                a = near(0, Math.max(0, p.count(0) - 1));
                b = near(0, 2);
                c = dice.nextInt(4) == 0 ? dice.nextInt() : dice.nextInt(16);
                is("check(" + a + ", " + b + ", " + c + ")", p.check(a, b, c), x.check(a, b, c));
                break;
        }
    }

    private void write() {
        if (dice.nextInt(6) == 0) {
            int a = near(0, p.count(6));
            is("end(" + a + ")", p.end(a), x.end(a));
        } else if (dice.nextInt(6) == 0) {
            int a = dice.nextInt();
            is("feed(" + a + ", ..)", p.feed(a, a, a, a, a), x.feed(a, a, a, a, a));
        } else {
            int most = Math.min(300, 20 + dice.nextInt(200));
            String text = Scribble.text(dice, most);
            feed(text);
        }
        is("fault() of " + p.text, p.fault(), x.fault());
        if (dice.nextBoolean()) {
            is("rules()", p.rules(), x.rules());
        }
    }

    private void feed(String text) {
        is("end(0)", p.end(0), x.end(0));
        for (int i = 0; i < text.length(); i += 20) {
            int a = Texts.four(text, i);
            int b = Texts.four(text, i + 4);
            int c = Texts.four(text, i + 8);
            int d = Texts.four(text, i + 12);
            int e = Texts.four(text, i + 16);
            is("feed", p.feed(a, b, c, d, e), x.feed(a, b, c, d, e));
        }
        is("end", p.end(text.length()), x.end(text.length()));
    }

    private void ask() {
        int a;
        int b;
        switch (dice.nextInt(5)) {
            case 0:
            case 1:
            case 2:
                a = near(0, 1);
                is("holds(" + a + ")", p.holds(a), x.holds(a));
                break;
            case 3:
                a = near(0, 120);
                b = near(0, 2);
                is("tried(" + a + ", " + b + ")", p.tried(a, b), x.tried(a, b));
                break;
            default:
                a = dice.nextInt(4) == 0 ? near(0, 120) : near(0, 12);
                is("still(" + a + ")", p.still(a), x.still(a));
                break;
        }
    }

    private void sail() {
        int a;
        int b;
        if (dice.nextInt(12) == 0 || p.count(10) > 5) {
            a = near(4, 64);
            is("begin(" + a + ")", p.begin(a), x.begin(a));
        } else if (dice.nextBoolean()) {
            a = near(0, 60);
            b = near(4, 64);
            is("hour(" + a + ", " + b + ")", p.hour(a, b), x.hour(a, b));
        } else {
            a = near(0, 3 * p.count(10));
            b = near(-1, Math.max(0, p.count(10) - 1));
            is("best(" + a + ", " + b + ")", p.best(a, b), x.best(a, b));
        }
    }

    private void note() {
        int a;
        switch (dice.nextInt(8)) {
            case 0:
                if (dice.nextInt(8) == 0) {
                    is("clear()", p.clear(), x.clear());
                }
                break;
            case 1:
            case 2:
                a = near(0, 3);
                is("read(" + a + ")", p.read(a), x.read(a));
                break;
            case 3:
                a = near(0, 7);
                is("goes(" + a + ")", p.goes(a), x.goes(a));
                break;
            default:
                a = near(-80, 80);
                is("record(" + a + ")", p.record(a), x.record(a));
                break;
        }
    }
}
