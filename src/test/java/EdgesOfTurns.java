/** The boundary cases of the turns till a recall: Terms 3 (a) to (c), Promises 6, 7 and 9. */
final class EdgesOfTurns extends Edges {
    static void run() {
        turnsOfASailingThatIsOpen();
        checkTheOneThatCameFirst();
        checkAsLongAsOneIsHere();
        whatTheLatestRampTurnBegan();
        cabinIfItWishesBeds();
        theLeastFreeCabin();
        cabinWithBedsEnough();
        orNoCabin();
        thenTally();
        rampOfThoseChecked();
        inTimeAheadOfLate();
        thenTheGreaterHeight();
        thenTheLesserNumber();
        aboardOrLeft();
        lateAbove30BeforeTheSailing();
        arriveMinutes();
        arriveRefusedNoneSuch();
        arriveRefusedNoSuchMinute();
        arriveRefusedBySailing();
        openAPlannedSailing();
        openRefusedNoneSuch();
        openRefusedAnotherIsOpen();
        settleAtMostN();
        settleRecallTurnsToo();
        settleTheFirstOpenSailing();
        settleTellsHowMany();
        settleRefused();
    }

    private static void turnsOfASailingThatIsOpen() {
        sentence("Terms 3", "TURNS of a sailing that is OPEN, as long as there is one:");
        Terminal x = new Terminal();
        x.ship(1, 1, 100, false);
        x.sailing(0, 1000, 0);
        due(0, x.settle(500));
        int ticket = come(x, 0, 20);
        due(0, x.settle(500));
        how(x, ticket, HERE);
        due(1, x.open(0));
        due(3, x.settle(500));
        how(x, ticket, ABOARD);
        due(0, x.settle(500));
        x.book(0, 20, 0, 0);
        due(0, x.settle(500));
        due(1, x.depart(0));
        due(0, x.settle(500));
        due(3, x.count(4));
        due(3, x.sailingOf(0, 4));
    }

    private static void checkTheOneThatCameFirst() {
        sentence("Terms 3", "(a) CHECK: of those HERE the one that came first (by its minute, then by number) "
                + "is CHECKED.");
        Terminal x = opened(1, 2000);
        int[] minutes = {200000, 7, 3, 3, 0, 8, 7};
        for (int minute : minutes) {
            come(x, 0, 20, 0, 0, minute);
        }
        x.book(0, 20, 0, 0);
        int[] order = {4, 2, 3, 1, 6, 5, 0};
        for (int i = 0; i < order.length; i++) {
            how(x, order[i], HERE);
            due(1, x.settle(1));
            how(x, order[i], CHECKED);
            logged(x, i, 0, order[i], 0);
        }
        how(x, 7, BOOKED);
        due(minutes.length, x.count(4));
    }

    private static void checkAsLongAsOneIsHere() {
        sentence("Terms 3", "As long as there is one HERE it's (a).");
        Terminal x = opened(1, 2000);
        x.cabin(0, 6);
        int first = come(x, 0, 20, 0, 1, 1);
        int[] kinds = {0, 1, 3, 5};
        for (int i = 0; i < kinds.length; i++) {
            due(1, x.settle(1));
            logged(x, 2 * i, kinds[i], first, 0);
            int comes = come(x, 0, 20, 0, 0, 200000);
            due(1, x.settle(1));
            logged(x, 2 * i + 1, 0, comes, 0);
        }
        how(x, first, ABOARD);
        for (int ticket = 1; ticket <= 4; ticket++) {
            how(x, ticket, CHECKED);
        }
        int two = come(x, 0, 20);
        int three = come(x, 0, 20);
        due(3, x.settle(3));
        logged(x, 8, 0, two, 0);
        logged(x, 9, 0, three, 0);
        due(1, x.log(10, 0));
    }

    private static void whatTheLatestRampTurnBegan() {
        sentence("Terms 3", "(b) else what the latest RAMP TURN began goes on:");
        Terminal x = opened(1, 50);
        int first = come(x, 0, 20, 0, 1, 1);
        int second = come(x, 0, 20, 0, 0, 2);
        int third = come(x, 0, 20, 0, 6, 3);
        due(3 + 3 + 2 + 1, x.settle(500));
        int[][] log = {{0, first}, {0, second}, {0, third}, {1, first}, {4, first}, {5, first}, {1, second},
            {5, second}, {2, third}};
        for (int i = 0; i < log.length; i++) {
            logged(x, i, log[i][0], log[i][1], 0);
        }
        due(0, x.settle(500));
        due(9, x.count(4));
    }

    private static void cabinIfItWishesBeds() {
        sentence("Terms 3", "CABIN, if that vehicle is ABOARD and WISHES beds:");
        for (int wish = 0; wish <= 6; wish++) {
            Terminal x = opened(1, 50);
            x.cabin(0, 6);
            int aboard = come(x, 0, 30, 1, wish, 1);
            int left = come(x, 0, 30, 0, wish, 1);
            due(2 + (wish == 0 ? 2 : 3) + 1, x.settle(500));
            how(x, left, LEFT);
            due(wish == 0 ? 5 : 3, x.log(3, 0));
            due(wish == 0 ? NONE : 0, x.ticketOf(aboard, CABIN));
            due(NONE, x.ticketOf(left, CABIN));
        }
    }

    private static void theLeastFreeCabin() {
        sentence("Terms 3", "it gets the least free cabin of the ship");
        Terminal x = new Terminal();
        x.ship(1, 2, 2000, false);
        x.ship(1, 2, 2000, false);
        x.cabin(0, 6);
        for (int beds = 6; beds >= 2; beds--) {
            due(7 - beds, x.cabin(1, beds));
        }
        x.sailing(1, 1000, 0);
        x.open(0);
        for (int i = 0; i < 6; i++) {
            come(x, 0, 20, 0, 2, i);
        }
        x.settle(500);
        for (int i = 0; i < 5; i++) {
            due(i + 1, x.ticketOf(i, CABIN));
        }
        due(NONE, x.ticketOf(5, CABIN));
        for (int i = 5; i >= 2; i--) {
            due(1, x.off(i));
        }
        int high = come(x, 0, 20, 2, 1, 5);
        x.settle(500);
        due(3, x.ticketOf(high, CABIN));
        due(4, x.ticketOf(2, CABIN));
        due(5, x.ticketOf(3, CABIN));
        due(NONE, x.ticketOf(4, CABIN));
        due(1, x.ticketOf(0, CABIN));
    }

    private static void cabinWithBedsEnough() {
        sentence("Terms 3", "with BEDS enough,");
        for (int wish = 1; wish <= 6; wish++) {
            Terminal x = opened(1, 100);
            for (int beds = 1; beds <= 6; beds++) {
                due(beds - 1, x.cabin(0, beds));
            }
            int first = come(x, 0, 20, 0, wish, 1);
            int second = come(x, 0, 20, 0, wish, 2);
            x.settle(500);
            due(wish - 1, x.ticketOf(first, CABIN));
            due(wish < 6 ? wish : NONE, x.ticketOf(second, CABIN));
            due(wish * (wish < 6 ? 2 : 1), x.total(0, 2));
        }
    }

    private static void orNoCabin() {
        sentence("Terms 3", "or none;");
        Terminal x = opened(1, 200);
        int first = come(x, 0, 20, 0, 1, 1);
        due(4, x.settle(500));
        logged(x, 2, 4, first, 0);
        logged(x, 3, 5, first, 0);
        x.cabin(0, 1);
        due(NONE, x.ticketOf(first, CABIN));
        int second = come(x, 0, 20, 0, 2, 1);
        due(2, x.settle(2));
        x.cabin(0, 2);
        due(2, x.settle(500));
        logged(x, 6, 3, second, 0);
        due(1, x.ticketOf(second, CABIN));
        int third = come(x, 0, 20, 0, 2, 1);
        due(4, x.settle(500));
        logged(x, 10, 4, third, 0);
        how(x, third, ABOARD);
    }

    private static void thenTally() {
        sentence("Terms 3", "then TALLY, if it's ABOARD (nothing else changes).");
        Terminal x = opened(1, 100);
        x.cabin(0, 3);
        int wishing = come(x, 0, 20, 0, 3, 1);
        int plain = come(x, 0, 20);
        int left = come(x, 0, 100);
        due(5, x.settle(5));
        tallied(x, wishing);
        due(1, x.settle(1));
        tallied(x, plain);
        due(1, x.settle(500));
        logged(x, 8, 2, left, 0);
        due(0, x.settle(500));
    }

    private static void tallied(Terminal x, int ticket) {
        Terminal before = x.again();
        int turns = before.count(4);
        due(1, x.settle(1));
        logged(x, turns, 5, ticket, 0);
        due(turns + 1, x.count(4));
        for (int other = 0; other < 3; other++) {
            for (int what = 0; what <= TIMES_ON; what++) {
                due(before.ticketOf(other, what), x.ticketOf(other, what));
            }
        }
        for (int what = 0; what <= 3; what++) {
            due(before.total(0, what), x.total(0, what));
        }
        due(before.shipOf(0, 5), x.shipOf(0, 5));
        due(before.lane(0, 0, 0, 0), x.lane(0, 0, 0, 0));
        due(before.kept(), x.kept());
        state(x, 0, OPEN);
    }

    private static void rampOfThoseChecked() {
        sentence("Terms 3", "(c) else RAMP: of those CHECKED the first by the BOARDING LIST");
        Terminal x = opened(1, 100);
        x.book(0, 20, 2, 0);
        int only = come(x, 0, 20);
        due(3, x.settle(500));
        logged(x, 1, 1, only, 0);
        how(x, 0, BOOKED);
        due(1, x.off(only));
        due(2, x.settle(500));
        logged(x, 3, 1, only, 0);
        logged(x, 4, 5, only, 0);
        int left = come(x, 0, 100, 2, 0, 1);
        due(2, x.settle(500));
        logged(x, 6, 2, left, 0);
        due(1, x.off(only));
        due(2, x.settle(500));
        how(x, left, LEFT);
    }

    private static void boards(Terminal x, int... order) {
        due(3 * order.length, x.settle(500));
        for (int i = 0; i < order.length; i++) {
            logged(x, order.length + 2 * i, 1, order[i], 0);
            logged(x, order.length + 2 * i + 1, 5, order[i], 0);
        }
    }

    private static void inTimeAheadOfLate() {
        sentence("Terms 3", "(those that came in time ahead of LATE ones,");
        Terminal x = opened(1, 2000);
        come(x, 0, 20, 2, 0, 971);
        come(x, 0, 20, 1, 0, 1000);
        come(x, 0, 20, 0, 0, 200000);
        come(x, 0, 20, 0, 0, 970);
        come(x, 0, 20, 0, 0, 0);
        boards(x, 3, 4, 0, 1, 2);
    }

    private static void thenTheGreaterHeight() {
        sentence("Terms 3", "then the greater HEIGHT,");
        Terminal x = opened(1, 2000);
        int[] heights = {0, 1, 2, 0, 1, 2};
        for (int i = 0; i < heights.length; i++) {
            come(x, 0, 20, heights[i], 0, i < 3 ? 970 : 971);
        }
        boards(x, 2, 1, 0, 5, 4, 3);
    }

    private static void thenTheLesserNumber() {
        sentence("Terms 3", "then the lesser number):");
        Terminal x = opened(1, 2000);
        int[] minutes = {300, 972, 200, 971, 100};
        for (int minute : minutes) {
            come(x, 0, 20, 1, 0, minute);
        }
        boards(x, 0, 2, 4, 1, 3);
        due(4, x.log(0, 1));
    }

    private static void aboardOrLeft() {
        sentence("Terms 3", "it goes ABOARD by the DECK RULE, or is LEFT.");
        Terminal x = opened(1, 60);
        int first = come(x, 0, 40);
        int longer = come(x, 0, 21);
        int fits = come(x, 0, 20);
        int none = come(x, 0, 20);
        due(4 + 2 + 1 + 2 + 1, x.settle(500));
        stands(x, first, 0, 0, 0);
        how(x, longer, LEFT);
        stands(x, longer, NONE, NONE, NONE);
        stands(x, fits, 0, 0, 40);
        how(x, none, LEFT);
        logged(x, 6, 2, longer, 0);
        logged(x, 7, 1, fits, 0);
        logged(x, 9, 2, none, 0);
        due(1, x.off(fits));
        due(2, x.settle(500));
        how(x, none, LEFT);
    }

    private static void lateAbove30BeforeTheSailing() {
        sentence("Terms 3", "LATE: its minute is above the sailing's less 30.");
        int[][] limits = {{1000, 970}, {30, 0}, {100000, 99970}, {31, 1}};
        for (int[] limit : limits) {
            Terminal x = new Terminal();
            x.ship(1, 1, 2000, false);
            x.sailing(0, limit[0], 0);
            x.open(0);
            come(x, 0, 20, 2, 0, limit[1] + 1);
            come(x, 0, 20, 0, 0, limit[1]);
            boards(x, 1, 0);
        }
        for (int minute : new int[] {0, 29}) {
            Terminal x = new Terminal();
            x.ship(1, 1, 2000, false);
            x.sailing(0, minute, 0);
            x.open(0);
            come(x, 0, 20, 0, 0, 0);
            come(x, 0, 20, 1, 0, 200000);
            boards(x, 1, 0);
        }
        lateByTheSailingThatItIsOfNow();
    }

    private static void lateByTheSailingThatItIsOfNow() {
        Terminal x = opened(1, 100);
        x.ship(1, 1, 100, false);
        due(1, x.sailing(1, 1001, 0));
        due(0, come(x, 0, 20, 1, 0, 971));
        due(1, come(x, 0, 20, 2, 0, 972));
        due(2, come(x, 0, 20, 0, 0, 970));
        due(3, x.settle(3));
        due(1, x.recall(0, 0));
        due(3, x.settle(500));
        x.open(1);
        due(3 + 6, x.settle(500));
        int[] order = {0, 2, 1};
        for (int i = 0; i < 3; i++) {
            logged(x, 9 + 2 * i, 1, order[i], 1);
        }
    }

    // ---- promise 6

    private static void arriveMinutes() {
        sentence("Promise 6", "A BOOKED ticket comes at a minute (0 to 200,000): true.");
        Terminal x = new Terminal();
        x.ship(1, 1, 2000, false);
        x.sailing(0, 1000, 0);
        int[] minutes = {0, 1, 199999, 200000};
        for (int i = 0; i < minutes.length; i++) {
            x.book(0, 20, 0, 0);
            due(NONE, x.ticketOf(i, MINUTE));
            due(1, x.arrive(i, minutes[i]));
            how(x, i, HERE);
            due(minutes[i], x.ticketOf(i, MINUTE));
        }
        x.open(0);
        x.book(0, 20, 0, 0);
        due(1, x.arrive(4, 0));
        how(x, 4, HERE);
    }

    private static void arriveRefusedNoneSuch() {
        sentence("Promise 6", "False, doing nothing: none such,");
        Terminal x = opened(1, 50);
        refused(x, 0, y -> y.arrive(0, 5));
        x.book(0, 50, 0, 0);
        x.book(0, 50, 0, 0);
        for (int ticket : noneSuch(2)) {
            refused(x, 0, y -> y.arrive(ticket, 5));
        }
        x.arrive(0, 5);
        refused(x, 0, y -> y.arrive(0, 6));
        x.settle(1);
        how(x, 0, CHECKED);
        refused(x, 0, y -> y.arrive(0, 6));
        x.settle(500);
        how(x, 0, ABOARD);
        refused(x, 0, y -> y.arrive(0, 6));
        x.arrive(1, 5);
        x.settle(500);
        how(x, 1, LEFT);
        refused(x, 0, y -> y.arrive(1, 6));
        x.book(0, 50, 0, 0);
        due(1, x.depart(0));
        int[] hows = {CARRIED, PAID_BACK, GONE_WITHOUT};
        for (int i = 0; i < hows.length; i++) {
            int ticket = i;
            how(x, i, hows[i]);
            refused(x, 0, y -> y.arrive(ticket, 6));
        }
    }

    private static void arriveRefusedNoSuchMinute() {
        sentence("Promise 6", "no such minute,");
        Terminal x = opened(1, 50);
        x.book(0, 20, 0, 0);
        for (int minute : outside(0, 200000)) {
            refused(x, 0, y -> y.arrive(0, minute));
        }
        how(x, 0, BOOKED);
        due(1, x.arrive(0, 200000));
    }

    private static void arriveRefusedBySailing() {
        sentence("Promise 6", "or its sailing is neither PLANNED nor OPEN.");
        Terminal x = new Terminal();
        x.ship(1, 1, 100, false);
        x.sailing(0, 1000, 0);
        x.sailing(0, 2000, 1);
        for (int i = 0; i < 5; i++) {
            x.book(i / 3, 20, 0, 0);
        }
        due(1, x.arrive(0, 1));
        x.open(0);
        due(1, x.arrive(1, 1));
        x.settle(500);
        x.depart(0);
        refused(x, 0, y -> y.arrive(2, 1));
        x.open(1);
        due(1, x.recall(1, 3));
        due(0, x.sailingOf(1, TILL_RECALL));
        due(1, x.arrive(3, 1));
        due(2, x.settle(500));
        state(x, 1, RECALLED);
        refused(x, 0, y -> y.arrive(3, 1));
        refused(x, 0, y -> y.arrive(4, 1));
    }

    // ---- promise 7

    private static void openAPlannedSailing() {
        sentence("Promise 7", "A PLANNED sailing is OPEN: true.");
        Terminal x = new Terminal();
        x.ship(1, 1, 100, false);
        for (int i = 0; i < 60; i++) {
            x.sailing(0, 90 * i, 0);
        }
        due(1, x.open(59));
        state(x, 59, OPEN);
        state(x, 58, PLANNED);
        due(0, x.depart(59));
        due(1, x.open(0));
        state(x, 0, OPEN);
    }

    private static void openRefusedNoneSuch() {
        sentence("Promise 7", "False, doing nothing: none such,");
        Terminal x = new Terminal();
        refused(x, 0, y -> y.open(0));
        x.ship(1, 1, 100, false);
        x.sailing(0, 1000, 0);
        x.sailing(0, 2000, 0);
        come(x, 0, 20);
        for (int sailing : noneSuch(2)) {
            refused(x, 0, y -> y.open(sailing));
        }
        x.open(0);
        refused(x, 0, y -> y.open(0));
        x.settle(500);
        x.depart(0);
        refused(x, 0, y -> y.open(0));
        x.open(1);
        x.recall(1, 0);
        state(x, 1, RECALLED);
        refused(x, 0, y -> y.open(1));
    }

    private static void openRefusedAnotherIsOpen() {
        sentence("Promise 7", "or another one of its ship is OPEN.");
        Terminal x = new Terminal();
        x.ship(1, 1, 100, false);
        x.ship(1, 1, 100, false);
        x.sailing(0, 1000, 0);
        x.sailing(0, 2000, 0);
        x.sailing(0, 3000, 0);
        x.sailing(1, 1000, 0);
        come(x, 1, 20);
        due(1, x.open(1));
        refused(x, 0, y -> y.open(0));
        refused(x, 0, y -> y.open(2));
        due(1, x.open(3));
        x.recall(1, 0);
        state(x, 1, OPEN);
        refused(x, 0, y -> y.open(2));
        x.settle(500);
        state(x, 1, RECALLED);
        due(1, x.open(2));
        refused(x, 0, y -> y.open(0));
        x.settle(500);
        due(1, x.depart(2));
        due(1, x.open(0));
        Terminal first = new Terminal();
        first.ship(1, 1, 100, false);
        first.sailing(0, 1000, 0);
        first.sailing(0, 2000, 0);
        due(1, first.open(0));
        refused(first, 0, y -> y.open(1));
        Terminal last = new Terminal();
        last.ship(1, 1, 100, false);
        for (int i = 0; i < 60; i++) {
            last.sailing(0, 90 * i, 0);
        }
        due(1, last.open(59));
        refused(last, 0, y -> y.open(0));
        refused(last, 0, y -> y.open(58));
    }

    // ---- promise 9

    private static void settleAtMostN() {
        sentence("Promise 9", "At most n TURNS (0 to 500),");
        Terminal x = opened(6, 2000);
        for (int i = 0; i < 168; i++) {
            come(x, 0, 20);
        }
        due(0, x.settle(0));
        due(0, x.count(4));
        due(1, x.settle(1));
        due(1, x.count(4));
        due(2, x.settle(2));
        due(3, x.count(4));
        due(500, x.settle(500));
        due(503, x.count(4));
        due(1, x.settle(499));
        due(504, x.count(4));
        due(0, x.settle(500));
        Terminal other = opened(6, 2000);
        for (int i = 0; i < 125; i++) {
            come(other, 0, 20, 0, 1, 1);
        }
        due(499, other.settle(499));
        how(other, 124, ABOARD);
        due(1, other.settle(500));
        due(0, other.settle(1));
    }

    private static void settleRecallTurnsToo() {
        sentence("Promise 9", "RECALL TURNS too,");
        Terminal x = opened(1, 2000);
        come(x, 0, 20);
        come(x, 0, 20);
        x.settle(500);
        due(1, x.recall(0, 0));
        due(0, x.settle(0));
        for (int turn = 0; turn < 4; turn++) {
            state(x, 0, OPEN);
            due(1, x.settle(1));
            due(7 + turn, x.count(4));
            due(7 + turn, x.sailingOf(0, 4));
        }
        state(x, 0, RECALLED);
        due(0, x.settle(500));
        Terminal both = opened(1, 2000);
        come(both, 0, 20);
        come(both, 0, 20);
        both.recall(0, 3);
        due(3 + 1 + 2, both.settle(500));
        state(both, 0, RECALLED);
    }

    private static void settleTheFirstOpenSailing() {
        sentence("Promise 9", "each of the first OPEN sailing by numbers that has one:");
        Terminal x = new Terminal();
        for (int i = 0; i < 4; i++) {
            x.ship(1, 1, 100, false);
            x.sailing(i, 1000 - 100 * i, i);
            come(x, i, 20);
        }
        x.open(3);
        x.open(1);
        due(1, x.settle(1));
        logged(x, 0, 0, 1, 1);
        x.open(0);
        due(1, x.settle(1));
        logged(x, 1, 0, 0, 0);
        due(2, x.settle(2));
        logged(x, 3, 5, 0, 0);
        due(1, x.settle(1));
        logged(x, 4, 1, 1, 1);
        x.recall(3, 0);
        due(1, x.settle(1));
        logged(x, 5, 5, 1, 1);
        due(1, x.settle(1));
        logged(x, 6, 8, 3, 3);
        how(x, 2, HERE);
        state(x, 3, RECALLED);
        due(0, x.settle(500));
        x.recall(1, 0);
        due(1, x.settle(1));
        come(x, 0, 20);
        due(1, x.settle(1));
        logged(x, 8, 0, 4, 0);
        due(1, x.recall(0, 0));
        due(1, x.settle(1));
        logged(x, 9, 6, 0, 0);
    }

    private static void settleTellsHowMany() {
        sentence("Promise 9", "how many were done.");
        Terminal x = new Terminal();
        due(0, x.settle(500));
        x.ship(1, 1, 100, false);
        x.ship(1, 1, 100, false);
        x.sailing(0, 1000, 0);
        x.sailing(1, 1000, 0);
        x.open(0);
        x.open(1);
        due(0, x.settle(500));
        come(x, 0, 20);
        come(x, 1, 20);
        come(x, 1, 20);
        due(9, x.settle(10));
        due(0, x.settle(10));
        due(9, x.count(4));
        due(3, x.sailingOf(0, 4));
        due(6, x.sailingOf(1, 4));
    }

    private static void settleRefused() {
        sentence("Promise 9", "NONE, doing nothing: another n.");
        Terminal x = opened(1, 100);
        come(x, 0, 20);
        for (int n : outside(0, 500)) {
            refused(x, NONE, y -> y.settle(n));
        }
        x.settle(500);
        x.recall(0, 0);
        refused(x, NONE, y -> y.settle(-1));
        refused(x, NONE, y -> y.settle(501));
        due(2, x.settle(500));
        refused(x, NONE, y -> y.settle(501));
        refused(new Terminal(), NONE, y -> y.settle(-1));
        refused(new Terminal(), NONE, y -> y.settle(501));
    }
}
