/** The boundary cases of a new object, ships, cabins, sailings and tickets: Terms 1, Promises 1 to 5. */
final class EdgesOfThings extends Edges {
    static void run() {
        the512thCall();
        theConstant();
        aNewObjectHasNothing();
        shipsAtMost12();
        decks1To4();
        lanes1To6OnEach();
        length50To2000();
        halfOnlyWith2DecksAnd2Lanes();
        shipGivesItsNumber();
        shipRefused();
        cabinsAtMost120InAll();
        cabinsAreEachOfAShip();
        beds1To6();
        cabinsNumberedAsTheyCome();
        cabinGivesItsNumber();
        cabinRefused();
        lines0To7();
        sailingsAtMost60();
        minutes0To100000();
        plannedThenOpenThenDeparted();
        orRecalled();
        sailingsLie90MinutesApart();
        sailingGivesItsNumber();
        sailingRefused();
        sailingRefusedLessThan90Away();
        sailingRefusedWhenThereAre60();
        ticketsAtMost400();
        ticketLength20To250();
        height0To2();
        wish0To6();
        fareOfEachPart();
        fareToTheNearest();
        fareIsPaidWithTheBooking();
        howATicketIs();
        bookGivesItsNumber();
        bookRefused();
        bookRefusedBySailing();
        bookRefusedWhenARecallIsAsked();
        bookRefusedWhenTheLanesAreShorter();
        bookRefusedWhenThereAre400();
    }

    private static void the512thCall() {
        sentence("What it is", "An object is used for at most 512 calls after it has been made");
        Terminal x = opened(1, 2000);
        for (int i = 0; i < 400; i++) {
            due(i, x.book(0, 20, 0, 0));
        }
        for (int i = 0; i < 106; i++) {
            due(1, x.arrive(i, i));
        }
        due(106 + 2 * 100 + 6, x.settle(500));
        due(0, x.settle(500));
        due(1, x.callsLeft());
        due(100, x.depart(0));
    }

    private static void theConstant() {
        sentence("The constants", "`NONE = -1`: There is none.");
        due(-1, FerryTerminal.NONE);
    }

    private static void aNewObjectHasNothing() {
        sentence("Promise 1", "No ships, sailings, tickets.");
        Terminal x = new Terminal();
        for (int what = 0; what <= 4; what++) {
            due(0, x.count(what));
        }
        due(0, x.kept());
        due(NONE, x.audit(0, 0, 0));
        due(NONE, x.shipOf(0, 0));
        due(NONE, x.sailingOf(0, 0));
        due(NONE, x.ticketOf(0, 0));
        due(NONE, x.log(0, 0));
        due(NONE, x.total(0, 0));
        due(NONE, x.lane(0, 0, 0, 0));
        due(NONE, x.at(0, 0, 0, 0));
        due(0, x.settle(500));
        refused(x, NONE, y -> y.cabin(0, 1));
        refused(x, NONE, y -> y.sailing(0, 0, 0));
        refused(x, NONE, y -> y.book(0, 20, 0, 0));
        refused(x, 0, y -> y.arrive(0, 0));
        refused(x, 0, y -> y.open(0));
        refused(x, 0, y -> y.recall(0, 0));
        refused(x, NONE, y -> y.depart(0));
        refused(x, 0, y -> y.off(0));
        refused(x, -2, y -> y.audit(0, 4, 0));
        Terminal other = opened(1, 50);
        come(other, 0, 20);
        due(0, x.count(0) + x.count(2) + x.count(3));
    }

    // ---- ships

    private static void shipsAtMost12() {
        sentence("Terms 1", "SHIPS, at most 12:");
        Terminal x = new Terminal();
        for (int i = 0; i < 12; i++) {
            due(i, x.count(0));
            due(i, x.ship(1, 1, 50 + i, false));
        }
        due(12, x.count(0));
        due(50, x.shipOf(0, 2));
        due(61, x.shipOf(11, 2));
        due(NONE, x.shipOf(12, 2));
        refused(x, NONE, y -> y.ship(1, 1, 50, false));
        refused(x, NONE, y -> y.ship(4, 6, 2000, true));
    }

    private static void decks1To4() {
        sentence("Terms 1", "DECKS 1 to 4,");
        Terminal x = new Terminal();
        for (int decks = 1; decks <= 4; decks++) {
            int ship = x.ship(decks, 2, 100, false);
            due(decks - 1, ship);
            due(decks, x.shipOf(ship, 0));
            due(100, x.lane(ship, decks - 1, 1, 0));
            due(NONE, x.lane(ship, decks, 1, 0));
        }
        for (int decks : outside(1, 4)) {
            refused(x, NONE, y -> y.ship(decks, 2, 100, false));
            refused(x, NONE, y -> y.ship(decks, 2, 100, true));
        }
    }

    private static void lanes1To6OnEach() {
        sentence("Terms 1", "LANES 1 to 6 on each,");
        Terminal x = new Terminal();
        for (int lanes = 1; lanes <= 6; lanes++) {
            int ship = x.ship(2, lanes, 100, false);
            due(lanes - 1, ship);
            due(lanes, x.shipOf(ship, 1));
            for (int deck = 0; deck < 2; deck++) {
                due(100, x.lane(ship, deck, 0, 0));
                due(100, x.lane(ship, deck, lanes - 1, 0));
                due(NONE, x.lane(ship, deck, lanes, 0));
            }
        }
        for (int lanes : outside(1, 6)) {
            refused(x, NONE, y -> y.ship(2, lanes, 100, false));
            refused(x, NONE, y -> y.ship(2, lanes, 100, true));
        }
    }

    private static void length50To2000() {
        sentence("Terms 1", "a LENGTH of these (50 to 2,000),");
        Terminal x = new Terminal();
        int[] lengths = {50, 51, 1999, 2000};
        for (int i = 0; i < lengths.length; i++) {
            due(i, x.ship(1, 1, lengths[i], false));
            due(lengths[i], x.shipOf(i, 2));
            due(lengths[i], x.lane(i, 0, 0, 0));
            due(lengths[i], x.lane(i, 0, 0, 1));
        }
        for (int length : outside(50, 2000)) {
            refused(x, NONE, y -> y.ship(1, 1, length, false));
            refused(x, NONE, y -> y.ship(2, 2, length, true));
        }
    }

    private static void halfOnlyWith2DecksAnd2Lanes() {
        sentence("Terms 1", "HALF or not (only with 2 DECKS at least and 2 LANES).");
        Terminal x = new Terminal();
        int[][] enough = {{2, 2}, {2, 3}, {3, 2}, {4, 6}};
        for (int i = 0; i < enough.length; i++) {
            due(i, x.ship(enough[i][0], enough[i][1], 100, true));
            due(1, x.shipOf(i, 3));
        }
        int[][] tooFew = {{1, 1}, {1, 2}, {1, 6}, {2, 1}, {4, 1}};
        for (int[] few : tooFew) {
            refused(x, NONE, y -> y.ship(few[0], few[1], 100, true));
            int plain = x.ship(few[0], few[1], 100, false);
            due(0, x.shipOf(plain, 3));
        }
        due(9, x.count(0));
    }

    private static void shipGivesItsNumber() {
        sentence("Promise 2", "A ship: its number.");
        Terminal x = new Terminal();
        due(0, x.ship(1, 1, 50, false));
        due(NONE, x.ship(0, 1, 50, false));
        due(NONE, x.ship(1, 1, 49, false));
        due(1, x.ship(3, 4, 70, true));
        int[] want = {3, 4, 70, 1, 0, 0};
        for (int what = 0; what < want.length; what++) {
            due(want[what], x.shipOf(1, what));
        }
        due(2, x.ship(1, 1, 50, false));
        due(3, x.count(0));
    }

    private static void shipRefused() {
        sentence("Promise 2", "NONE, doing nothing: something isn't as told, or there are 12.");
        Terminal x = new Terminal();
        for (int made = 0; made <= 12; made++) {
            refused(x, NONE, y -> y.ship(0, 2, 100, false));
            refused(x, NONE, y -> y.ship(2, 7, 100, true));
            refused(x, NONE, y -> y.ship(2, 2, 2001, false));
            refused(x, NONE, y -> y.ship(1, 2, 100, true));
            due(made < 12 ? made : NONE, x.ship(2, 2, 100, true));
        }
        due(12, x.count(0));
    }

    // ---- cabins

    private static void cabinsAtMost120InAll() {
        sentence("Terms 1", "CABINS, at most 120 in all,");
        Terminal x = new Terminal();
        x.ship(1, 1, 50, false);
        x.ship(1, 1, 50, false);
        x.ship(1, 1, 50, false);
        for (int i = 0; i < 120; i++) {
            due(i, x.cabin(i == 119 ? 1 : 0, 1));
        }
        due(120, x.count(1));
        due(119, x.shipOf(0, 4));
        due(1, x.shipOf(1, 4));
        for (int i = 0; i < 3; i++) {
            int ship = i;
            refused(x, NONE, y -> y.cabin(ship, 1));
        }
        x.sailing(1, 1000, 0);
        x.open(0);
        int ticket = come(x, 0, 20, 0, 1, 1);
        due(4, x.settle(500));
        due(119, x.ticketOf(ticket, CABIN));
    }

    private static void cabinsAreEachOfAShip() {
        sentence("Terms 1", "each of a ship,");
        Terminal x = new Terminal();
        for (int ship = 0; ship < 12; ship++) {
            x.ship(1, 1, 50, false);
        }
        due(0, x.cabin(0, 6));
        due(1, x.cabin(11, 6));
        due(2, x.cabin(11, 6));
        for (int ship = 0; ship < 12; ship++) {
            due(ship == 0 ? 1 : ship == 11 ? 2 : 0, x.shipOf(ship, 4));
        }
        x.sailing(11, 1000, 0);
        x.open(0);
        int first = come(x, 0, 20, 0, 6, 1);
        x.settle(500);
        due(1, x.ticketOf(first, CABIN));
    }

    private static void beds1To6() {
        sentence("Terms 1", "with BEDS 1 to 6,");
        for (int beds = 1; beds <= 6; beds++) {
            Terminal x = opened(2, 100);
            due(0, x.cabin(0, beds));
            for (int wrongBeds : outside(1, 6)) {
                refused(x, NONE, y -> y.cabin(0, wrongBeds));
            }
            int more = beds < 6 ? come(x, 0, 20, 2, beds + 1, 1) : NONE;
            int fits = come(x, 0, 20, 0, beds, 1);
            x.settle(500);
            due(0, x.ticketOf(fits, CABIN));
            due(NONE, x.ticketOf(more, CABIN));
        }
    }

    private static void cabinsNumberedAsTheyCome() {
        sentence("Terms 1", "numbered as they come.");
        Terminal x = new Terminal();
        x.ship(1, 1, 50, false);
        x.ship(1, 1, 50, false);
        due(0, x.cabin(1, 6));
        due(1, x.cabin(0, 1));
        due(NONE, x.cabin(0, 7));
        due(2, x.cabin(1, 2));
        due(3, x.cabin(0, 3));
        due(4, x.count(1));
    }

    private static void cabinGivesItsNumber() {
        sentence("Promise 3", "A cabin of a ship: its number.");
        Terminal x = opened(1, 100);
        due(0, x.cabin(0, 1));
        due(1, x.cabin(0, 2));
        due(2, x.cabin(0, 2));
        int ticket = come(x, 0, 20, 0, 2, 1);
        x.settle(500);
        due(1, x.ticketOf(ticket, CABIN));
        due(3, x.cabin(0, 6));
    }

    private static void cabinRefused() {
        sentence("Promise 3", "NONE, doing nothing: no such ship, beds, or there are 120.");
        Terminal x = new Terminal();
        refused(x, NONE, y -> y.cabin(0, 1));
        x.ship(1, 1, 50, false);
        x.ship(1, 1, 50, false);
        for (int ship : noneSuch(2)) {
            refused(x, NONE, y -> y.cabin(ship, 1));
        }
        for (int beds : outside(1, 6)) {
            refused(x, NONE, y -> y.cabin(1, beds));
        }
        for (int i = 0; i < 119; i++) {
            x.cabin(1, 6);
        }
        due(119, x.cabin(0, 1));
        refused(x, NONE, y -> y.cabin(0, 1));
        refused(x, NONE, y -> y.cabin(1, 6));
    }

    // ---- sailings

    private static void lines0To7() {
        sentence("Terms 1", "LINES 0 to 7.");
        Terminal x = new Terminal();
        x.ship(1, 1, 50, false);
        for (int line = 0; line <= 7; line++) {
            due(line, x.sailing(0, 90 * line, line));
            due(line, x.sailingOf(line, 2));
        }
        for (int line : outside(0, 7)) {
            refused(x, NONE, y -> y.sailing(0, 5000, line));
        }
    }

    private static void sailingsAtMost60() {
        sentence("Terms 1", "SAILINGS, at most 60:");
        Terminal x = new Terminal();
        x.ship(1, 1, 50, false);
        x.ship(1, 1, 50, false);
        for (int i = 0; i < 60; i++) {
            due(i, x.count(2));
            due(i, x.sailing(0, 90 * i, 3));
        }
        due(60, x.count(2));
        due(90 * 59, x.sailingOf(59, 1));
        due(NONE, x.sailingOf(60, 1));
        refused(x, NONE, y -> y.sailing(0, 9000, 3));
        refused(x, NONE, y -> y.sailing(1, 0, 0));
        due(1, x.open(59));
        int ticket = come(x, 59, 20);
        due(3, x.settle(500));
        how(x, ticket, ABOARD);
    }

    private static void minutes0To100000() {
        sentence("Terms 1", "a ship, a MINUTE (0 to 100,000), a LINE;");
        Terminal x = new Terminal();
        x.ship(1, 1, 50, false);
        x.ship(1, 1, 50, false);
        int[] minutes = {0, 100000, 99910, 90};
        for (int i = 0; i < minutes.length; i++) {
            due(i, x.sailing(1, minutes[i], i));
            due(1, x.sailingOf(i, 0));
            due(minutes[i], x.sailingOf(i, 1));
            due(i, x.sailingOf(i, 2));
        }
        for (int minute : outside(0, 100000)) {
            refused(x, NONE, y -> y.sailing(0, minute, 0));
        }
    }

    private static void plannedThenOpenThenDeparted() {
        sentence("Terms 1", "PLANNED, then OPEN, then DEPARTED;");
        Terminal x = new Terminal();
        x.ship(1, 1, 50, false);
        x.sailing(0, 1000, 0);
        state(x, 0, PLANNED);
        refused(x, NONE, y -> y.depart(0));
        state(x, 0, PLANNED);
        due(1, x.open(0));
        state(x, 0, OPEN);
        refused(x, 0, y -> y.open(0));
        due(0, x.depart(0));
        state(x, 0, DEPARTED);
        refused(x, 0, y -> y.open(0));
        refused(x, NONE, y -> y.depart(0));
        refused(x, 0, y -> y.recall(0, 0));
    }

    private static void orRecalled() {
        sentence("Terms 1", "or RECALLED.");
        Terminal x = new Terminal();
        x.ship(1, 1, 50, false);
        x.sailing(0, 1000, 0);
        refused(x, 0, y -> y.recall(0, 0));
        x.open(0);
        due(1, x.recall(0, 0));
        state(x, 0, RECALLED);
        refused(x, 0, y -> y.open(0));
        refused(x, NONE, y -> y.depart(0));
        refused(x, 0, y -> y.recall(0, 0));
    }

    private static void sailingsLie90MinutesApart() {
        sentence("Terms 1", "Those of one ship that aren't RECALLED lie 90 MINUTES apart at least.");
        Terminal x = new Terminal();
        x.ship(1, 1, 50, false);
        x.ship(1, 1, 50, false);
        due(0, x.sailing(0, 1000, 0));
        for (int minute : new int[] {911, 912, 999, 1000, 1001, 1089}) {
            refused(x, NONE, y -> y.sailing(0, minute, 7));
        }
        due(1, x.sailing(0, 1090, 0));
        due(2, x.sailing(0, 910, 0));
        due(3, x.sailing(1, 1000, 0));
        due(4, x.sailing(0, 1269, 0));
        refused(x, NONE, y -> y.sailing(0, 1179, 0));
        refused(x, NONE, y -> y.sailing(0, 1180, 0));
        due(5, x.sailing(0, 1449, 0));
        due(6, x.sailing(0, 1359, 0));
    }

    private static void sailingGivesItsNumber() {
        sentence("Promise 4", "A sailing: its number.");
        Terminal x = new Terminal();
        x.ship(1, 1, 50, false);
        x.ship(1, 1, 50, false);
        due(0, x.sailing(1, 5000, 2));
        due(NONE, x.sailing(1, 5089, 2));
        due(NONE, x.sailing(0, 5000, 8));
        due(1, x.sailing(0, 400, 5));
        int[] want = {0, 400, 5, PLANNED, 0, NONE, 0};
        for (int what = 0; what < want.length; what++) {
            due(want[what], x.sailingOf(1, what));
        }
        due(2, x.count(2));
    }

    private static void sailingRefused() {
        sentence("Promise 4", "NONE, doing nothing: no such ship, minute, line;");
        Terminal x = new Terminal();
        refused(x, NONE, y -> y.sailing(0, 1000, 0));
        x.ship(1, 1, 50, false);
        x.ship(1, 1, 50, false);
        x.sailing(1, 1000, 3);
        for (int ship : noneSuch(2)) {
            refused(x, NONE, y -> y.sailing(ship, 1000, 0));
        }
        for (int minute : outside(0, 100000)) {
            refused(x, NONE, y -> y.sailing(0, minute, 3));
        }
        for (int line : outside(0, 7)) {
            refused(x, NONE, y -> y.sailing(0, 1000, line));
        }
        due(1, x.sailing(0, 1000, 3));
    }

    private static void sailingRefusedLessThan90Away() {
        sentence("Promise 4", "another one of the ship that isn't RECALLED is less than 90 MINUTES away;");
        Terminal x = new Terminal();
        x.ship(1, 1, 50, false);
        x.sailing(0, 1000, 0);
        x.open(0);
        refused(x, NONE, y -> y.sailing(0, 1089, 0));
        x.book(0, 20, 0, 0);
        due(1, x.recall(0, 5));
        refused(x, NONE, y -> y.sailing(0, 1089, 0));
        due(1, x.settle(500));
        state(x, 0, RECALLED);
        due(1, x.sailing(0, 1000, 0));
        refused(x, NONE, y -> y.sailing(0, 911, 0));
        x.open(1);
        x.depart(1);
        state(x, 1, DEPARTED);
        refused(x, NONE, y -> y.sailing(0, 1089, 0));
        refused(x, NONE, y -> y.sailing(0, 911, 0));
        due(2, x.sailing(0, 1090, 0));
        due(3, x.sailing(0, 910, 0));
    }

    private static void sailingRefusedWhenThereAre60() {
        sentence("Promise 4", "there are 60.");
        Terminal x = new Terminal();
        x.ship(1, 1, 50, false);
        for (int i = 0; i < 59; i++) {
            x.sailing(0, 90 * i, 0);
        }
        x.open(0);
        x.recall(0, 0);
        x.open(1);
        x.depart(1);
        due(59, x.sailing(0, 0, 0));
        refused(x, NONE, y -> y.sailing(0, 90 * 70, 0));
        x.open(59);
        x.recall(59, 0);
        state(x, 59, RECALLED);
        refused(x, NONE, y -> y.sailing(0, 90 * 70, 0));
    }

    // ---- tickets

    private static void ticketsAtMost400() {
        sentence("Terms 1", "TICKETS, at most 400: a sailing,");
        Terminal x = new Terminal();
        x.ship(1, 1, 50, false);
        x.sailing(0, 1000, 0);
        x.sailing(0, 2000, 0);
        for (int i = 0; i < 399; i++) {
            due(i, x.book(0, 20, 0, 0));
        }
        due(399, x.book(1, 21, 0, 0));
        due(400, x.count(3));
        due(399, x.sailingOf(0, 6));
        due(1, x.sailingOf(1, 6));
        due(563, x.ticketOf(399, PAID));
        due(NONE, x.ticketOf(400, PAID));
        refused(x, NONE, y -> y.book(0, 20, 0, 0));
        refused(x, NONE, y -> y.book(1, 20, 0, 0));
        due(1, x.arrive(399, 5));
        due(1, x.open(1));
        due(3, x.settle(500));
        how(x, 399, ABOARD);
    }

    private static void ticketLength20To250() {
        sentence("Terms 1", "a length (20 to 250),");
        Terminal x = opened(1, 2000);
        int[] lengths = {20, 21, 249, 250};
        for (int i = 0; i < lengths.length; i++) {
            due(i, x.book(0, lengths[i], 0, 0));
            due(lengths[i], x.ticketOf(i, 1));
        }
        for (int length : outside(20, 250)) {
            refused(x, NONE, y -> y.book(0, length, 0, 0));
        }
    }

    private static void height0To2() {
        sentence("Terms 1", "a HEIGHT (0 low, 1, 2 high),");
        Terminal x = opened(1, 2000);
        for (int height = 0; height <= 2; height++) {
            due(height, x.book(0, 20, height, 0));
            due(height, x.ticketOf(height, 2));
        }
        for (int height : outside(0, 2)) {
            refused(x, NONE, y -> y.book(0, 20, height, 0));
        }
    }

    private static void wish0To6() {
        sentence("Terms 1", "a WISH (0 to 6 beds).");
        Terminal x = opened(1, 2000);
        for (int wish = 0; wish <= 6; wish++) {
            due(wish, x.book(0, 20, 0, wish));
            due(wish, x.ticketOf(wish, 3));
        }
        for (int wish : outside(0, 6)) {
            refused(x, NONE, y -> y.book(0, 20, 0, wish));
        }
    }

    /** A ship with sailing n on line n, for each line. */
    private static Terminal eachLine() {
        Terminal x = new Terminal();
        x.ship(1, 1, 2000, false);
        for (int line = 0; line <= 7; line++) {
            due(line, x.sailing(0, 90 * line, line));
        }
        return x;
    }

    private static void fare(Terminal x, int line, int length, int height, int wish, int fare) {
        int ticket = x.book(line, length, height, wish);
        due(fare, x.ticketOf(ticket, PAID));
    }

    private static void fareOfEachPart() {
        sentence("Terms 1", "FARE: 500, 3 each unit of length, 700 each HEIGHT, 1,500 each bed wished;");
        Terminal x = eachLine();
        fare(x, 0, 20, 0, 0, 500 + 60);
        fare(x, 0, 21, 0, 0, 500 + 63);
        fare(x, 0, 250, 0, 0, 500 + 750);
        fare(x, 0, 20, 1, 0, 560 + 700);
        fare(x, 0, 20, 2, 0, 560 + 1400);
        fare(x, 0, 20, 0, 1, 560 + 1500);
        fare(x, 0, 20, 0, 6, 560 + 9000);
        fare(x, 0, 250, 2, 6, 500 + 750 + 1400 + 9000);
    }

    private static void fareToTheNearest() {
        sentence("Terms 1", "that times (100 + 5 LINE) by 100, to the nearest whole number (a half up);");
        Terminal x = eachLine();
        int[] whole = {560, 588, 616, 644, 672, 700, 728, 756};
        for (int line = 0; line <= 7; line++) {
            fare(x, line, 20, 0, 0, whole[line]);
        }
        // 610.05, 597.45, 619.50, 641.55, 628.95, and the greatest, 15727.50.
        fare(x, 1, 27, 0, 0, 610);
        fare(x, 1, 23, 0, 0, 597);
        fare(x, 1, 30, 0, 0, 620);
        fare(x, 1, 37, 0, 0, 642);
        fare(x, 1, 33, 0, 0, 629);
        fare(x, 7, 250, 2, 6, 15728);
        // 766.80 and 760.05 on line 7, where the whole part is cut from 35 in the hundred.
        fare(x, 7, 21, 0, 0, 760);
        fare(x, 3, 30, 0, 0, 679);
    }

    private static void fareIsPaidWithTheBooking() {
        sentence("Terms 1", "it is paid with the booking (of the LINE then, also when it goes on).");
        Terminal x = new Terminal();
        x.ship(1, 1, 100, false);
        x.ship(1, 1, 100, false);
        x.sailing(0, 1000, 7);
        x.sailing(1, 1001, 7);
        due(0, x.kept());
        int ticket = x.book(0, 20, 0, 0);
        due(756, x.kept());
        due(756, x.ticketOf(ticket, PAID));
        x.open(0);
        x.recall(0, 0);
        due(1, x.settle(500));
        due(1, x.ticketOf(ticket, 0));
        due(756, x.ticketOf(ticket, PAID));
        due(0, x.ticketOf(ticket, BACK));
        due(756, x.kept());
    }

    private static void howATicketIs() {
        sentence("Terms 1", "HOW it is: 0 BOOKED, 1 HERE (it came; not checked), 2 CHECKED, 3 ABOARD, 4 LEFT, "
                + "5 PAID BACK, 6 CARRIED, 7 GONE WITHOUT (it never came).");
        Terminal x = opened(1, 50);
        x.book(0, 50, 0, 0);
        x.book(0, 50, 0, 0);
        x.book(0, 50, 0, 0);
        for (int ticket = 0; ticket < 3; ticket++) {
            due(0, x.ticketOf(ticket, HOW));
        }
        x.arrive(0, 0);
        x.arrive(1, 0);
        due(1, x.ticketOf(0, HOW));
        x.settle(2);
        due(2, x.ticketOf(0, HOW));
        due(2, x.ticketOf(1, HOW));
        x.settle(1);
        due(3, x.ticketOf(0, HOW));
        x.settle(2);
        due(4, x.ticketOf(1, HOW));
        due(0, x.ticketOf(2, HOW));
        due(1, x.depart(0));
        due(6, x.ticketOf(0, HOW));
        due(5, x.ticketOf(1, HOW));
        due(7, x.ticketOf(2, HOW));
        due(NONE, x.ticketOf(2, MINUTE));
    }

    private static void bookGivesItsNumber() {
        sentence("Promise 5", "A ticket: its number.");
        Terminal x = new Terminal();
        x.ship(1, 1, 100, false);
        x.sailing(0, 1000, 0);
        x.sailing(0, 2000, 2);
        due(0, x.book(1, 30, 0, 0));
        due(NONE, x.book(1, 19, 0, 0));
        due(NONE, x.book(2, 30, 0, 0));
        due(1, x.book(0, 40, 1, 2));
        due(2, x.book(1, 50, 2, 6));
        int[] want = {1, 50, 2, 6, BOOKED, NONE, NONE, NONE, NONE, NONE, 12155, 0, 0};
        for (int what = 0; what < want.length; what++) {
            due(want[what], x.ticketOf(2, what));
        }
        due(3, x.count(3));
    }

    private static void bookRefused() {
        sentence("Promise 5", "NONE, doing nothing: something isn't as told,");
        Terminal x = new Terminal();
        x.ship(1, 1, 100, false);
        refused(x, NONE, y -> y.book(0, 20, 0, 0));
        x.sailing(0, 1000, 0);
        x.sailing(0, 2000, 0);
        x.book(1, 20, 0, 0);
        for (int sailing : noneSuch(2)) {
            refused(x, NONE, y -> y.book(sailing, 20, 0, 0));
        }
        refused(x, NONE, y -> y.book(0, 19, 0, 0));
        refused(x, NONE, y -> y.book(0, -20, 0, 0));
        refused(x, NONE, y -> y.book(0, 20, -1, 0));
        refused(x, NONE, y -> y.book(0, 20, 3, 0));
        refused(x, NONE, y -> y.book(0, 20, 0, -1));
        refused(x, NONE, y -> y.book(0, 20, 0, 7));
        due(1, x.book(0, 20, 0, 0));
    }

    private static void bookRefusedBySailing() {
        sentence("Promise 5", "the sailing is neither PLANNED nor OPEN,");
        Terminal x = new Terminal();
        x.ship(1, 1, 100, false);
        x.sailing(0, 1000, 0);
        x.sailing(0, 2000, 0);
        due(0, x.book(0, 20, 0, 0));
        x.open(0);
        due(1, x.book(0, 20, 0, 0));
        x.depart(0);
        state(x, 0, DEPARTED);
        refused(x, NONE, y -> y.book(0, 20, 0, 0));
        x.open(1);
        due(2, x.book(1, 20, 0, 0));
        x.recall(1, 0);
        x.settle(500);
        state(x, 1, RECALLED);
        refused(x, NONE, y -> y.book(1, 20, 0, 0));
    }

    private static void bookRefusedWhenARecallIsAsked() {
        sentence("Promise 5", "or a recall of it is asked;");
        Terminal x = new Terminal();
        x.ship(1, 1, 100, false);
        x.ship(1, 1, 100, false);
        x.sailing(0, 1000, 0);
        x.sailing(1, 1000, 0);
        x.open(0);
        x.open(1);
        come(x, 0, 20);
        due(1, x.recall(0, 1000));
        state(x, 0, OPEN);
        refused(x, NONE, y -> y.book(0, 20, 0, 0));
        due(1, x.book(1, 20, 0, 0));
        due(3, x.settle(3));
        due(0, x.sailingOf(0, TILL_RECALL));
        state(x, 0, OPEN);
        refused(x, NONE, y -> y.book(0, 20, 0, 0));
    }

    private static void bookRefusedWhenTheLanesAreShorter() {
        sentence("Promise 5", "the ship's LANES are shorter than the vehicle;");
        Terminal x = new Terminal();
        int[] lengths = {50, 249, 250, 100};
        for (int ship = 0; ship < lengths.length; ship++) {
            x.ship(1, 1, lengths[ship], false);
            x.sailing(ship, 1000, 0);
        }
        due(0, x.book(0, 50, 0, 0));
        refused(x, NONE, y -> y.book(0, 51, 0, 0));
        due(1, x.book(1, 249, 0, 0));
        refused(x, NONE, y -> y.book(1, 250, 0, 0));
        due(2, x.book(2, 250, 0, 0));
        refused(x, NONE, y -> y.book(2, 251, 0, 0));
        due(3, x.book(3, 100, 0, 0));
        due(4, x.book(3, 100, 2, 0));
        refused(x, NONE, y -> y.book(3, 101, 0, 0));
    }

    private static void bookRefusedWhenThereAre400() {
        sentence("Promise 5", "there are 400.");
        Terminal x = new Terminal();
        x.ship(1, 1, 50, false);
        x.sailing(0, 1000, 0);
        x.sailing(0, 2000, 0);
        for (int i = 0; i < 400; i++) {
            due(i, x.book(0, 20, 0, 0));
        }
        refused(x, NONE, y -> y.book(0, 20, 0, 0));
        x.open(0);
        due(0, x.depart(0));
        how(x, 0, GONE_WITHOUT);
        refused(x, NONE, y -> y.book(1, 20, 0, 0));
    }
}
