import java.util.ArrayList;
import java.util.List;

/** From where to where the document lets each number of a call go, for a ship as it stands. */
final class Span {
    static final int NONE = -1;
    static final int VOID = Integer.MIN_VALUE;
    static final int MIN = Integer.MIN_VALUE;
    static final int MAX = Integer.MAX_VALUE;

    final String call;
    /** What is answered when it can't be; 0 is false. */
    final int refusal;
    /** Numbers from this one up to that one are asked for; of set, one number says which bounds the other has. */
    final int first;
    final int end;
    /** The least and the greatest of each number, one behind the other. */
    private final int[] ends;

    private Span(String call, int refusal, int first, int end, int... ends) {
        this.call = call;
        this.refusal = refusal;
        this.first = first;
        this.end = end;
        this.ends = ends;
    }

    int numbers() {
        return ends.length / 2;
    }

    int least(int i) {
        return ends[2 * i];
    }

    int most(int i) {
        return ends[2 * i + 1];
    }

    /** All numbers at their least but one, which is given. */
    int[] with(int which, int value) {
        int[] all = new int[numbers()];
        for (int i = 0; i < all.length; i++) {
            all[i] = i == which ? value : least(i);
        }
        return all;
    }

    /** Every choice of the least or the greatest of each number. */
    List<int[]> corners() {
        List<int[]> all = new ArrayList<>();
        for (int bits = 0; bits < 1 << numbers(); bits++) {
            int[] corner = new int[numbers()];
            for (int i = 0; i < corner.length; i++) {
                corner[i] = (bits >> i & 1) == 0 ? least(i) : most(i);
            }
            all.add(corner);
        }
        return all;
    }

    /** The first values of a number that may not be, and the farthest. */
    List<Integer> outside(int i) {
        List<Integer> all = new ArrayList<>();
        for (long value : new long[] {least(i) - 1L, most(i) + 1L, MIN, MAX}) {
            boolean fits = value >= MIN && value <= MAX;
            if (fits && (value < least(i) || value > most(i)) && !all.contains((int) value)) {
                all.add((int) value);
            }
        }
        return all;
    }

    /** All calls that have numbers; bounds that hang on the ship are looked up on a scout like it. */
    static List<Span> all(String state) {
        List<Span> all = new ArrayList<>();
        ShipSways scout = Fleet.ship(state);
        hull(all, scout);
        ticks(all, scout);
        voyage(all, scout);
        return all;
    }

    private static void add(List<Span> all, String call, int refusal, int... ends) {
        all.add(new Span(call, refusal, 0, ends.length / 2, ends));
    }

    private static void hull(List<Span> all, ShipSways scout) {
        int lastWeight = scout.count(2) - 1;
        int rests = 0;
        while (scout.rest(rests) != VOID && rests < 100) {
            rests++;
        }
        add(all, "slice", NONE, 1, 20, 0, 99999, 0, 99999);
        add(all, "weight", NONE, 1, 500, -19, 19, 0, 40, NONE, 80);
        add(all, "lose", 0, 0, lastWeight);
        add(all, "tank", NONE, 1, 9, 0, 40, 1, 300);
        add(all, "fill", 0, 0, scout.count(3) - 1, 0, Fleet.HOLDS);
        add(all, "mark", NONE, -19, 19, 0, 40);
        add(all, "at", VOID, -80, 80, 0, 2);
        add(all, "rest", VOID, 0, rests - 1);
        add(all, "stays", NONE, 0, rests - 1);
        add(all, "place", VOID, 0, lastWeight);
    }

    private static void ticks(List<Span> all, ShipSways scout) {
        int now = scout.count(0);
        add(all, "wave", NONE, 1, 60, 4, 64, 0, 15);
        add(all, "sea", VOID, 0, 599);
        // 1 .. 9 is right for each of the four.
        all.add(new Span("set", 0, 0, 1, 0, 3, 1, 9));
        all.add(new Span("set", 0, 1, 2, 0, 0, 1, 1000000));
        all.add(new Span("set", 0, 1, 2, 1, 1, 0, 50));
        all.add(new Span("set", 0, 1, 2, 2, 2, 1, 50));
        all.add(new Span("set", 0, 1, 2, 3, 3, 0, 9));
        add(all, "go", NONE, 0, 100);
        add(all, "kept", VOID, 0, now - 1, 0, 2);
        add(all, "lead", VOID, 0, 3);
        add(all, "end", 0, 0, scout.count(6));
        add(all, "holds", NONE, 0, now == 600 ? -1 : 1);
        add(all, "check", NONE, 0, now - 1, 0, 2, MIN, MAX);
        add(all, "wetted", NONE, 0, scout.count(5) - 1);
    }

    private static void voyage(List<Span> all, ShipSways scout) {
        int hours = scout.count(10);
        add(all, "tried", NONE, 0, 120, 0, 2);
        add(all, "still", NONE, 0, 120);
        add(all, "hour", NONE, 0, 60, 4, 64);
        add(all, "begin", NONE, 4, 64);
        add(all, "best", NONE, 0, 3 * hours, NONE, hours - 1);
        add(all, "record", NONE, -80, 80);
        add(all, "read", VOID, 0, 3);
        add(all, "goes", VOID, 0, scout.count(4) - 1);
        add(all, "count", NONE, 0, 12);
    }
}
