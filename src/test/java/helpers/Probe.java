import java.util.ArrayList;
import java.util.List;
import java.util.Map;

/**
 * Asks a ship for all that can be asked, then lets it go on and asks again, so that nothing of what it holds
 * stays hidden. It takes some 250 calls: a ship is good for 512.
 */
final class Probe {
    private static final int NONE = -1;
    private static final int VOID = Integer.MIN_VALUE;
    /** What calls answer when they are refused; the others of a probe never are. */
    private static final Map<String, Integer> REFUSALS = Map.ofEntries(
        Map.entry("at", VOID), Map.entry("rest", VOID), Map.entry("stays", NONE), Map.entry("sea", VOID), Map.entry("kept", VOID),
        Map.entry("lead", VOID), Map.entry("holds", NONE), Map.entry("tried", NONE), Map.entry("still", NONE), Map.entry("best", NONE),
        Map.entry("goes", VOID), Map.entry("check", NONE), Map.entry("place", VOID), Map.entry("wetted", NONE), Map.entry("rules", 0),
        Map.entry("go", NONE), Map.entry("slice", NONE), Map.entry("weight", NONE), Map.entry("tank", NONE), Map.entry("fill", 0),
        Map.entry("mark", NONE), Map.entry("wave", NONE), Map.entry("hour", NONE), Map.entry("record", NONE), Map.entry("feed", NONE));

    private final Object ship;
    private final List<String> names = new ArrayList<>();
    private final List<int[]> numbers = new ArrayList<>();
    private final List<Integer> answers = new ArrayList<>();

    private Probe(Object ship) {
        this.ship = ship;
    }

    static Probe of(Object ship) {
        Probe probe = new Probe(ship);
        probe.askAll();
        probe.goOn();
        probe.askAll();
        return probe;
    }

    /**
     * The calls of this probe on another ship, but for those that were refused: if a refused call changed something,
     * one of these would change it for the ship with the call that is looked at and for the one without it alike.
     */
    Probe again(Object other) {
        Probe probe = new Probe(other);
        for (int i = 0; i < names.size(); i++) {
            if (!answers.get(i).equals(REFUSALS.get(names.get(i)))) {
                probe.ask(names.get(i), numbers.get(i));
            }
        }
        return probe;
    }

    /** Each answer that differs from the one that is due is told. */
    void isAs(String label, Probe due) {
        Due.is(label + ": answers", due.answers.size(), answers.size());
        for (int i = 0; i < Math.min(answers.size(), due.answers.size()); i++) {
            Due.is(label + ", then " + Calls.text(names.get(i), numbers.get(i)), due.answers.get(i), answers.get(i));
        }
    }

    private int ask(String name, int... with) {
        int answer = Calls.make(ship, name, with);
        names.add(name);
        numbers.add(with);
        answers.add(answer);
        return answer;
    }

    private void askEach(String name, int least, int most) {
        for (int i = least; i <= most; i++) {
            ask(name, i);
        }
    }

    private void askAll() {
        int now = ask("count", 0);
        int hours = ask("count", 10);
        askEach("count", 1, 12);
        for (int slope : new int[] {-80, -37, -1, 0, 1, 23, 80}) {
            ask("at", slope, 0);
            ask("at", slope, 1);
            ask("at", slope, 2);
        }
        askEach("rest", 0, 2);
        askEach("stays", 0, 2);
        for (int tick : new int[] {0, 7, 100, 599}) {
            ask("sea", tick);
        }
        for (int tick : new int[] {0, now - 2, now - 1, now}) {
            ask("kept", tick, 0);
            ask("kept", tick, 1);
            ask("kept", tick, 2);
        }
        askEach("lead", 0, 3);
        ask("fault");
        askEach("holds", 0, 1);
        ask("tried", 12, 0);
        ask("tried", 12, 1);
        ask("tried", 12, 2);
        ask("still", 6);
        ask("best", 0, -1);
        ask("best", 3 * hours, -1);
        ask("best", 2, 0);
        ask("best", hours, 1);
        ask("best", hours, hours - 1);
        askEach("read", 0, 3);
        askEach("goes", 0, 7);
        ask("check", now - 1, 0, 0);
        ask("check", now - 1, 1, 0);
        ask("check", now - 1, 2, 1);
        ask("check", 0, 2, 2);
        askEach("place", 0, 11);
        askEach("wetted", 0, 5);
    }

    private void goOn() {
        ask("go", 40);
        askEach("wetted", 0, 5);
        ask("rules");
        askEach("holds", 0, 1);
        ask("slice", 2, 22222, 22);
        ask("weight", 3, 4, 5, 1);
        ask("tank", 2, 2, 9);
        ask("fill", 0, 7);
        ask("mark", 3, 2);
        ask("wave", 7, 9, 2);
        ask("hour", 30, 17);
        ask("record", -5);
        ask("feed", 0x66696e20, 0x313d3220, 0x3b202020, 0x20202020, 0x20202020);
        ask("go", 3);
    }
}
