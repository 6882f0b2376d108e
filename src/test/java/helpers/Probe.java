import java.util.ArrayList;
import java.util.List;

/**
 * Asks a ship for all that can be asked, then lets it go on and asks again, so that nothing of what it holds
 * stays hidden. It takes some 250 calls: a ship is good for 512.
 */
final class Probe {
    private final Object ship;
    private final List<String> calls = new ArrayList<>();
    private final List<Integer> answers = new ArrayList<>();

    private Probe(Object ship) {
        this.ship = ship;
    }

    static Probe of(Object ship) {
        Probe probe = new Probe(ship);
        probe.askAll();
        probe.goOn();
        probe.askAll();
        return probe;
    }

    /** Each answer that differs from the one that is due is told. */
    void isAs(String label, Probe due) {
        Due.is(label + ": answers", due.answers.size(), answers.size());
        for (int i = 0; i < Math.min(answers.size(), due.answers.size()); i++) {
            Due.is(label + ", then " + calls.get(i), due.answers.get(i), answers.get(i));
        }
    }

    private int ask(String name, int... numbers) {
        int answer = Calls.make(ship, name, numbers);
        calls.add(Calls.text(name, numbers));
        answers.add(answer);
        return answer;
    }

    private void askEach(String name, int least, int most) {
        for (int i = least; i <= most; i++) {
            ask(name, i);
        }
    }

    private void askAll() {
        int now = ask("count", 0);
        int hours = ask("count", 10);
        askEach("count", 1, 12);
        for (int slope : new int[] {-80, -37, -1, 0, 1, 23, 80}) {
            ask("at", slope, 0);
            ask("at", slope, 1);
            ask("at", slope, 2);
        }
        askEach("rest", 0, 2);
        askEach("stays", 0, 2);
        for (int tick : new int[] {0, 7, 100, 599}) {
            ask("sea", tick);
        }
        for (int tick : new int[] {0, now - 2, now - 1, now}) {
            ask("kept", tick, 0);
            ask("kept", tick, 1);
            ask("kept", tick, 2);
        }
        askEach("lead", 0, 3);
        ask("fault");
        askEach("holds", 0, 1);
        ask("tried", 12, 0);
        ask("tried", 12, 1);
        ask("tried", 12, 2);
        ask("still", 6);
        ask("best", 0, -1);
        ask("best", 3 * hours, -1);
        ask("best", 2, 0);
        ask("best", hours, 1);
        ask("best", hours, hours - 1);
        askEach("read", 0, 3);
        askEach("goes", 0, 7);
        ask("check", now - 1, 0, 0);
        ask("check", now - 1, 1, 0);
        ask("check", now - 1, 2, 1);
        ask("check", 0, 2, 2);
        askEach("place", 0, 11);
        askEach("wetted", 0, 5);
    }

    private void goOn() {
        ask("go", 2);
        ask("rules");
        askEach("holds", 0, 1);
        ask("slice", 2, 22222, 22);
        ask("weight", 3, 4, 5, 1);
        ask("tank", 2, 2, 9);
        ask("fill", 0, 7);
        ask("mark", 3, 2);
        ask("wave", 7, 9, 2);
        ask("hour", 30, 17);
        ask("record", -5);
        ask("feed", 0x66696e20, 0x313d3220, 0x3b202020, 0x20202020, 0x20202020);
        ask("go", 3);
    }
}
