/**
 * The last values that may be: each number of each call at both ends, in every choice of ends, is taken, and
 * it and all that is asked behind it answer as a plain reading of the document does.
 */
public final class BoundsTest {
    private static final int MIN = Integer.MIN_VALUE;
    private static final int MAX = Integer.MAX_VALUE;

    private BoundsTest() {
    }

    public static void main(String[] args) {
        for (Span span : Span.all("underWay")) {
            for (int[] numbers : span.corners()) {
                isTaken(span, numbers);
            }
            for (int i = span.first; i < span.end; i++) {
                if (span.least(i) < span.most(i)) {
                    isTaken(span, span.with(i, span.least(i) + 1));
                    isTaken(span, span.with(i, span.most(i) - 1));
                }
            }
        }
        bytes();
        Due.end();
    }

    private static void isTaken(Span span, int[] numbers) {
        String text = Calls.text(span.call, numbers);
        boolean lost = (span.call.equals("lose") || span.call.equals("place")) && numbers[0] == Fleet.LOST;
        ShipSways ship = Fleet.ship("underWay");
        Plain plain = Fleet.plain("underWay");
        int answer = Calls.make(ship, span.call, numbers);
        Due.is(text, Calls.make(plain, span.call, numbers), answer);
        Due.is(text + " is refused", lost ? 1 : 0, answer == span.refusal ? 1 : 0);
        Probe.of(ship).isAs(text, Probe.of(plain));
    }

    /** The numbers of feed may be any. */
    private static void bytes() {
        for (int number : new int[] {MIN, -1, 0, 1, MAX}) {
            ShipSways ship = Fleet.ship("barge");
            Plain plain = Fleet.plain("barge");
            for (Object one : new Object[] {ship, plain}) {
                Due.is("feed", 20, Calls.make(one, "feed", number, number, number, number, number));
            }
            Probe.of(ship).isAs("feed of " + number, Probe.of(plain));
        }
    }
}
