import java.util.ArrayList;
import java.util.List;

/**
 * A FerryTerminal whose calls are counted, since what a call behind the 512th answers is free, and kept,
 * so that they can be made again on a new object. A boolean counts 1 or 0.
 */
final class Terminal {
    static final int MOST_CALLS = 512;

    /** The text of the call that was made last, on any terminal. */
    static String last = "";

    /** A call of the face on an object. */
    interface Call {
        long on(FerryTerminal x);
    }

    private final FerryTerminal x = new FerryTerminal();
    private final List<Call> made = new ArrayList<>();

    int callsLeft() {
        return MOST_CALLS - made.size();
    }

    /** Another object, with the same calls made on it. */
    Terminal again() {
        Terminal other = new Terminal();
        for (Call call : made) {
            other.make(call);
        }
        return other;
    }

    private long make(Call call) {
        if (callsLeft() == 0) {
            throw new IllegalStateException("a test makes more than 512 calls: " + last);
        }
        made.add(call);
        return call.on(x);
    }

    private long call(String name, Call call, int... with) {
        StringBuilder text = new StringBuilder(name).append('(');
        for (int i = 0; i < with.length; i++) {
            text.append(i == 0 ? "" : ", ").append(with[i]);
        }
        last = text.append(')').toString();
        return make(call);
    }

    int ship(int decks, int lanes, int length, boolean half) {
        return (int) call(half ? "ship, HALF, " : "ship", y -> y.ship(decks, lanes, length, half),
                decks, lanes, length);
    }

    int cabin(int ship, int beds) {
        return (int) call("cabin", y -> y.cabin(ship, beds), ship, beds);
    }

    int sailing(int ship, int minute, int line) {
        return (int) call("sailing", y -> y.sailing(ship, minute, line), ship, minute, line);
    }

    int book(int sailing, int length, int height, int wish) {
        return (int) call("book", y -> y.book(sailing, length, height, wish), sailing, length, height, wish);
    }

    int arrive(int ticket, int minute) {
        return (int) call("arrive", y -> y.arrive(ticket, minute) ? 1 : 0, ticket, minute);
    }

    int open(int sailing) {
        return (int) call("open", y -> y.open(sailing) ? 1 : 0, sailing);
    }

    int recall(int sailing, int n) {
        return (int) call("recall", y -> y.recall(sailing, n) ? 1 : 0, sailing, n);
    }

    int settle(int n) {
        return (int) call("settle", y -> y.settle(n), n);
    }

    int depart(int sailing) {
        return (int) call("depart", y -> y.depart(sailing), sailing);
    }

    int off(int ticket) {
        return (int) call("off", y -> y.off(ticket) ? 1 : 0, ticket);
    }

    int shipOf(int ship, int what) {
        return (int) call("shipOf", y -> y.shipOf(ship, what), ship, what);
    }

    int sailingOf(int sailing, int what) {
        return (int) call("sailingOf", y -> y.sailingOf(sailing, what), sailing, what);
    }

    int ticketOf(int ticket, int what) {
        return (int) call("ticketOf", y -> y.ticketOf(ticket, what), ticket, what);
    }

    int at(int ship, int deck, int lane, int place) {
        return (int) call("at", y -> y.at(ship, deck, lane, place), ship, deck, lane, place);
    }

    int lane(int ship, int deck, int lane, int what) {
        return (int) call("lane", y -> y.lane(ship, deck, lane, what), ship, deck, lane, what);
    }

    int log(int i, int what) {
        return (int) call("log", y -> y.log(i, what), i, what);
    }

    int count(int what) {
        return (int) call("count", y -> y.count(what), what);
    }

    int total(int sailing, int what) {
        return (int) call("total", y -> y.total(sailing, what), sailing, what);
    }

    long kept() {
        return call("kept", FerryTerminal::kept);
    }

    int audit(int ticket, int what, int mask) {
        return (int) call("audit", y -> y.audit(ticket, what, mask), ticket, what, mask);
    }
}
