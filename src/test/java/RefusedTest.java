/**
 * "What is refused changes nothing.": each call with each of its numbers just beyond both ends, and as far off as
 * can be, on ships in all states; behind it every later answer is as it would have been without it.
 */
public final class RefusedTest {
    private static final int NONE = ShipSways.NONE;
    private static final int VOID = ShipSways.VOID;

    private RefusedTest() {
    }

    public static void main(String[] args) {
        statesAreAsMeant();
        for (String state : Fleet.STATES) {
            Due.of("What is refused changes nothing. (" + state + ")");
            Probe due = plan(state);
            beyondTheEnds(state, due);
            refusedAnywhere(state, due);
        }
        withoutAny();
        withoutRoom();
        withoutLevel();
        tooLate();
        Due.end();
    }

    private static void statesAreAsMeant() {
        Due.of("");
        int[][] due = {
            {0, 0, 0, 0, 0, 0, 0, 0, 0, 0, 0, 0, 0},
            {0, 1, 1, 0, 0, 0, 0, 0, 0, 0, 0, 0, 200}
        };
        for (int what = 0; what <= 12; what++) {
            Due.is("bare: count(" + what + ")", due[0][what], Fleet.ship("bare").count(what));
            Due.is("barge: count(" + what + ")", due[1][what], Fleet.ship("barge").count(what));
        }
        int[] full = {50, 6, 12, 4, 8, 6, 300};
        for (int what = 0; what < full.length; what++) {
            Due.is("full: count(" + what + ")", full[what], Fleet.ship("full").count(what));
        }
        Due.is("full: HOURS", 12, Fleet.ship("full").count(10));
        Due.is("full: RECORD", 64, Fleet.ship("full").count(11));
        for (String state : Fleet.STATES) {
            boolean over = state.equals("over") || state.equals("sunk");
            Due.is(state + ": OVER", over ? 1 : 0, Fleet.ship(state).count(9));
        }
        Due.is("sunk: no LEVEL", VOID, Fleet.ship("sunk").at(0, 0));
        Due.yes("over: a LEVEL", Fleet.ship("over").at(0, 0) != VOID);
        Due.is("spent: NOW", 600, Fleet.ship("spent").count(0));
        Due.is("under way: a FAULT", 12, Fleet.ship("underWay").fault());
        Due.is("full: no FAULT", NONE, Fleet.ship("full").fault());
        Due.is("wordy: bytes", 300, Fleet.ship("wordy").count(6));
        Due.is("wordy: a FAULT", 300, Fleet.ship("wordy").fault());
    }

    private static void beyondTheEnds(String state, Probe due) {
        for (Span span : Span.all(state)) {
            for (int i = span.first; i < span.end; i++) {
                for (int value : span.outside(i)) {
                    isRefused(state, due, span.call, span.refusal, span.with(i, value));
                }
            }
        }
    }

    /** Calls that no ship of the fleet takes, whatever it has. */
    private static void refusedAnywhere(String state, Probe due) {
        isRefused(state, due, "lose", 0, 12);
        isRefused(state, due, "fill", 0, 4, 0);
        isRefused(state, due, "mark", NONE, 20, 41);
        isRefused(state, due, "wave", NONE, 0, 0, 0);
        isRefused(state, due, "goes", VOID, 8);
        isRefused(state, due, "wetted", NONE, 6);
        isRefused(state, due, "place", VOID, 12);
        isRefused(state, due, "end", 0, 301);
        isRefused(state, due, "best", NONE, 37, NONE);
        isRefused(state, due, "best", NONE, 0, 12);
        isRefused(state, due, "kept", VOID, 600, 0);
        isRefused(state, due, "check", NONE, 600, 0, 0);
        isRefused(state, due, "rest", VOID, 160);
        isRefused(state, due, "stays", NONE, 160);
    }

    /** All calls that want something that isn't there. */
    private static void withoutAny() {
        Due.of("false, NONE or VOID if there is none such");
        Probe due = plan("bare");
        isRefused("bare", due, "lose", 0, 0);
        isRefused("bare", due, "fill", 0, 0, 0);
        isRefused("bare", due, "at", VOID, 0, 0);
        isRefused("bare", due, "at", VOID, 0, 1);
        isRefused("bare", due, "at", VOID, 0, 2);
        isRefused("bare", due, "rest", VOID, 0);
        isRefused("bare", due, "stays", NONE, 0);
        isRefused("bare", due, "kept", VOID, 0, 0);
        isRefused("bare", due, "end", 0, 1);
        isRefused("bare", due, "best", NONE, 0, 0);
        isRefused("bare", due, "best", NONE, 1, NONE);
        isRefused("bare", due, "goes", VOID, 0);
        isRefused("bare", due, "check", NONE, 0, 0, 0);
        isRefused("bare", due, "place", VOID, 0);
        isRefused("bare", due, "wetted", NONE, 0);
        Probe later = plan("underWay");
        isRefused("underWay", later, "lose", 0, Fleet.LOST);
        isRefused("underWay", later, "place", VOID, Fleet.LOST);
        isRefused("underWay", later, "rules", 0);
    }

    /** All that has room for so many, with just that many there: what would be right is refused. */
    private static void withoutRoom() {
        Due.of("at most 6, 12, 4, 6, 8, 12, 64, 300");
        Probe due = plan("full");
        isRefused("full", due, "slice", NONE, 1, 11111, 11111);
        isRefused("full", due, "weight", NONE, 1, 0, 0, NONE);
        isRefused("full", due, "tank", NONE, 1, 0, 1);
        isRefused("full", due, "mark", NONE, 0, 0);
        isRefused("full", due, "wave", NONE, 60, 4, 4);
        isRefused("full", due, "hour", NONE, 60, 16);
        isRefused("full", due, "record", NONE, 80);
        isRefused("full", due, "feed", NONE, 0, 0, 0, 0, 0);
        isRefused("full", due, "lose", 0, Fleet.LOST);
        Probe wordy = plan("wordy");
        isRefused("wordy", wordy, "feed", NONE, 0x3b3b3b3b, 0, 0, 0, 0);
        isRefused("wordy", wordy, "rules", 0);
    }

    private static void withoutLevel() {
        Due.of("VOID .. without a LEVEL");
        Probe due = plan("sunk");
        for (int what = 0; what <= 2; what++) {
            isRefused("sunk", due, "at", VOID, -80, what);
            isRefused("sunk", due, "at", VOID, 80, what);
        }
        isRefused("sunk", due, "rest", VOID, 0);
        isRefused("sunk", due, "stays", NONE, 0);
        Due.of("CHECKED is a TICK that went when it wasn't OVER ahead of it, and there was a LEVEL");
        for (int number = 0; number <= 2; number++) {
            isRefused("sunk", due, "check", NONE, 2, number, 0);
            isRefused("sunk", due, "check", NONE, 3, number, 0);
            isRefused("sunk", due, "check", NONE, 4, number, 0);
        }
    }

    private static void tooLate() {
        Due.of("NONE for others, or if NOW is 600");
        Probe due = plan("spent");
        isRefused("spent", due, "holds", NONE, 0);
        isRefused("spent", due, "holds", NONE, 1);
        Due.of("n TICKS go (0 .. 100; up to 600)");
        for (int n : new int[] {0, 1, 100}) {
            // It isn't refused, but no TICK is left that could go.
            isRefused("spent", due, "go", 600, n);
        }
    }

    private static void isRefused(String state, Probe due, String call, int refusal, int... numbers) {
        ShipSways ship = Fleet.ship(state);
        String text = Calls.text(call, numbers);
        Due.is(text, refusal, Calls.make(ship, call, numbers));
        due.again(ship).isAs(text, due);
    }

    /** What a ship in this state answers to all that it doesn't refuse. */
    private static Probe plan(String state) {
        return Probe.of(Fleet.ship(state)).again(Fleet.ship(state));
    }
}
