import java.util.ArrayList;
import java.util.List;

/** What the tests of the document's boundary cases share. */
abstract class Edges {
    static final int NONE = FerryTerminal.NONE;

    static final int BOOKED = 0;
    static final int HERE = 1;
    static final int CHECKED = 2;
    static final int ABOARD = 3;
    static final int LEFT = 4;
    static final int PAID_BACK = 5;
    static final int CARRIED = 6;
    static final int GONE_WITHOUT = 7;

    static final int PLANNED = 0;
    static final int OPEN = 1;
    static final int DEPARTED = 2;
    static final int RECALLED = 3;

    /** What sailingOf() and ticketOf() are asked for most. */
    static final int STATE = 3;
    static final int TILL_RECALL = 5;
    static final int HOW = 4;
    static final int MINUTE = 5;
    static final int DECK = 6;
    static final int LANE = 7;
    static final int PLACE = 8;
    static final int CABIN = 9;
    static final int PAID = 10;
    static final int BACK = 11;
    static final int TIMES_ON = 12;

    /** A sentence of the document that has a test of its own. */
    static final class Quote {
        final String where;
        final String words;

        private Quote(String where, String words) {
            this.where = where;
            this.words = words;
        }
    }

    static final List<Quote> QUOTES = new ArrayList<>();
    static int checks = 0;
    static int refusals = 0;
    static int wrong = 0;
    private static String now = "";

    /** Names the sentence whose boundary cases the checks below it test. */
    static void sentence(String where, String words) {
        QUOTES.add(new Quote(where, words));
        now = where + ", \"" + words + "\"";
    }

    static void fault(String told) {
        wrong++;
        System.out.println(now + ": " + told);
    }

    static void due(long want, long got) {
        checks++;
        if (got != want) {
            fault(Terminal.last + " answered " + got + ", due is " + want);
        }
    }

    /** A call on a terminal. */
    interface Try {
        long on(Terminal x);
    }

    /**
     * The call answers so, and nothing has changed after it: the terminal as it is then and one on which
     * the call was never made answer every question alike, and go on alike.
     */
    static void refused(Terminal before, long want, Try call) {
        refusals++;
        Terminal without = before.again();
        Terminal with = before.again();
        due(want, call.on(with));
        String tried = Terminal.last;
        int room = with.callsLeft() - 1;
        if (room <= 0) {
            return;
        }
        alike(tried, without, with, room / 2);
        due(without.settle(500), with.settle(500));
        alike(tried + ", then settle(500)", without, with, room - room / 2);
    }

    private static void alike(String tried, Terminal without, Terminal with, int room) {
        List<Try> questions = questions(without.again());
        for (int i = 0; i < questions.size() && i < room; i++) {
            long want = questions.get(i).on(without);
            long got = questions.get(i).on(with);
            checks++;
            if (got != want) {
                fault("after " + tried + ", which is refused, " + Terminal.last + " answers " + got
                        + ", without it " + want);
            }
        }
    }

    /** All that can be asked, the newest object of each kind first, in case there is no room for all. */
    private static List<Try> questions(Terminal x) {
        List<Try> all = new ArrayList<>();
        int[] counts = new int[5];
        for (int i = 0; i < 5; i++) {
            int what = i;
            all.add(y -> y.count(what));
            counts[i] = x.callsLeft() > 0 ? x.count(what) : 0;
        }
        all.add(Terminal::kept);
        all.add(y -> y.audit(0, 0, 0));
        for (int entry = counts[4]; entry >= 0 && entry > counts[4] - 3; entry--) {
            int i = entry;
            all.add(y -> y.log(i, 0));
            all.add(y -> y.log(i, 1));
            all.add(y -> y.log(i, 2));
        }
        int most = Math.max(Math.max(counts[0], counts[2]), counts[3]);
        for (int i = 0; i < most; i++) {
            askTicket(all, counts[3] - 1 - i);
            askSailing(all, counts[2] - 1 - i);
            askShip(all, counts[0] - 1 - i);
        }
        return all;
    }

    private static void askTicket(List<Try> all, int ticket) {
        for (int i = 0; ticket >= 0 && i <= TIMES_ON; i++) {
            int what = i;
            all.add(y -> y.ticketOf(ticket, what));
        }
    }

    private static void askSailing(List<Try> all, int sailing) {
        for (int i = 0; sailing >= 0 && i <= 6; i++) {
            int what = i;
            all.add(y -> y.sailingOf(sailing, what));
        }
        for (int i = 0; sailing >= 0 && i <= 3; i++) {
            int what = i;
            all.add(y -> y.total(sailing, what));
        }
    }

    private static void askShip(List<Try> all, int ship) {
        for (int i = 0; ship >= 0 && i <= 5; i++) {
            int what = i;
            all.add(y -> y.shipOf(ship, what));
        }
        for (int i = 0; ship >= 0 && i <= 4; i++) {
            int what = i;
            all.add(y -> y.lane(ship, 0, 0, what));
        }
        if (ship >= 0) {
            all.add(y -> y.at(ship, 0, 0, 0));
        }
    }

    /** Numbers that no object has, when so many were made, numbered from 0. */
    static int[] noneSuch(int made) {
        return outside(0, made - 1);
    }

    /** Numbers below the least and above the greatest: the next ones, and some far off. */
    static int[] outside(int least, int greatest) {
        return new int[] {least - 1, greatest + 1, least - 2, greatest + 2, -1000, 65536 + greatest, 1 << 24,
            Integer.MIN_VALUE, Integer.MIN_VALUE + 1, Integer.MAX_VALUE};
    }

    // ---- states that many tests start from

    /** A ship of one deck with so many lanes of a length, and its OPEN sailing 0 at minute 1000 on line 0. */
    static Terminal opened(int lanes, int length) {
        Terminal x = new Terminal();
        due(0, x.ship(1, lanes, length, false));
        due(0, x.sailing(0, 1000, 0));
        due(1, x.open(0));
        return x;
    }

    /** Books a vehicle and lets it come. */
    static int come(Terminal x, int sailing, int length, int height, int wish, int minute) {
        int ticket = x.book(sailing, length, height, wish);
        due(1, ticket >= 0 ? 1 : 0);
        due(1, x.arrive(ticket, minute));
        return ticket;
    }

    /** A low vehicle without a wish that comes in time. */
    static int come(Terminal x, int sailing, int length) {
        return come(x, sailing, length, 0, 0, 1);
    }

    static void how(Terminal x, int ticket, int how) {
        due(how, x.ticketOf(ticket, HOW));
    }

    static void state(Terminal x, int sailing, int state) {
        due(state, x.sailingOf(sailing, STATE));
    }

    static void stands(Terminal x, int ticket, int deck, int lane, int place) {
        due(deck, x.ticketOf(ticket, DECK));
        due(lane, x.ticketOf(ticket, LANE));
        due(place, x.ticketOf(ticket, PLACE));
    }

    static void logged(Terminal x, int i, int kind, int ticket, int sailing) {
        due(kind, x.log(i, 0));
        due(ticket, x.log(i, 1));
        due(sailing, x.log(i, 2));
    }
}
