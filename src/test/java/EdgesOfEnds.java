/** The boundary cases of departures, of bringing off by hand and of the questions: Promises 10 to 14, 18 to 20. */
final class EdgesOfEnds extends Edges {
    static void run() {
        departsWithoutTurns();
        departsWhenNoRecallIsAsked();
        aboardAreCarried();
        leftArePaidBackAll();
        bookedAreGoneWithoutHalf();
        decksAndCabinsAreFree();
        departTellsHowMany();
        departRefused();
        offByHand();
        offIfNothingStandsBehind();
        offChecksAndFreesTheCabin();
        offRefusedNoneSuch();
        offRefusedSomethingStandsThere();
        offRefusedBeforeCabinOrTally();
        offRefusedWhenARecallIsAsked();
        shipOfEach();
        shipOfNoneSuch();
        sailingOfEach();
        sailingOfTillRecall();
        sailingOfItsTickets();
        sailingOfNoneSuch();
        ticketOfEach();
        ticketOfMinute();
        ticketOfPlaces();
        ticketOfItsCabin();
        ticketOfMoney();
        ticketOfNoneSuch();
        countOfEach();
        countNoneForOthers();
        totalOfEach();
        totalBedsOfThoseWithACabin();
        totalNoneSuch();
        keptLessPaidBack();
    }

    // ---- promise 10

    private static void departsWithoutTurns() {
        sentence("Promise 10", "An OPEN sailing departs, if it has no TURNS");
        Terminal x = opened(1, 50);
        x.cabin(0, 1);
        come(x, 0, 50, 0, 1, 1);
        come(x, 0, 50);
        for (int turn = 0; turn < 6; turn++) {
            refused(x, NONE, y -> y.depart(0));
            due(1, x.settle(1));
        }
        due(1, x.off(0));
        refused(x, NONE, y -> y.depart(0));
        due(3, x.settle(500));
        x.book(0, 20, 0, 0);
        due(1, x.depart(0));
        state(x, 0, DEPARTED);
        due(9, x.count(4));
    }

    private static void departsWhenNoRecallIsAsked() {
        sentence("Promise 10", "and no recall is asked:");
        Terminal x = opened(1, 50);
        come(x, 0, 50);
        x.settle(500);
        Terminal open = x.again();
        due(1, x.recall(0, 1000));
        refused(x, NONE, y -> y.depart(0));
        due(1, x.settle(1));
        refused(x, NONE, y -> y.depart(0));
        due(1, x.settle(1));
        state(x, 0, RECALLED);
        refused(x, NONE, y -> y.depart(0));
        due(1, open.depart(0));
    }

    private static void aboardAreCarried() {
        sentence("Promise 10", "those ABOARD are CARRIED,");
        Terminal x = new Terminal();
        x.ship(2, 2, 100, false);
        x.ship(1, 1, 100, false);
        x.sailing(0, 1000, 0);
        x.sailing(1, 1000, 0);
        x.open(0);
        x.open(1);
        for (int i = 0; i < 4; i++) {
            come(x, 0, 100, 0, 0, i);
        }
        come(x, 1, 100);
        x.settle(500);
        int paid = x.ticketOf(3, PAID);
        due(4, x.depart(0));
        for (int i = 0; i < 4; i++) {
            how(x, i, CARRIED);
            stands(x, i, NONE, NONE, NONE);
            due(i, x.ticketOf(i, MINUTE));
            due(0, x.ticketOf(i, BACK));
        }
        due(paid, x.ticketOf(3, PAID));
        how(x, 4, ABOARD);
        stands(x, 4, 0, 0, 0);
    }

    private static void leftArePaidBackAll() {
        sentence("Promise 10", "those LEFT are PAID BACK (all),");
        Terminal x = opened(1, 50);
        come(x, 0, 50);
        int left = come(x, 0, 21);
        x.settle(500);
        how(x, left, LEFT);
        due(0, x.ticketOf(left, BACK));
        due(1, x.depart(0));
        how(x, left, PAID_BACK);
        due(563, x.ticketOf(left, PAID));
        due(563, x.ticketOf(left, BACK));
        due(650, x.kept());
    }

    private static void bookedAreGoneWithoutHalf() {
        sentence("Promise 10", "those BOOKED are GONE WITHOUT (half is paid back, cut);");
        Terminal x = opened(1, 100);
        x.sailing(0, 2000, 0);
        x.book(0, 20, 0, 0);
        x.book(0, 21, 0, 0);
        x.book(0, 22, 0, 0);
        x.book(1, 21, 0, 0);
        due(0, x.depart(0));
        int[] halves = {280, 281, 283};
        for (int i = 0; i < 3; i++) {
            how(x, i, GONE_WITHOUT);
            due(560 + 3 * i, x.ticketOf(i, PAID));
            due(halves[i], x.ticketOf(i, BACK));
            due(NONE, x.ticketOf(i, MINUTE));
        }
        how(x, 3, BOOKED);
        due(0, x.ticketOf(3, BACK));
    }

    private static void decksAndCabinsAreFree() {
        sentence("Promise 10", "decks and cabins are free:");
        Terminal x = new Terminal();
        x.ship(2, 2, 50, true);
        x.cabin(0, 1);
        x.sailing(0, 1000, 0);
        x.sailing(0, 2000, 0);
        x.open(0);
        for (int i = 0; i < 4; i++) {
            come(x, 0, 50, 0, i == 1 ? 1 : 0, 1);
        }
        x.settle(500);
        due(4, x.shipOf(0, 5));
        due(4, x.depart(0));
        due(0, x.shipOf(0, 5));
        for (int i = 0; i < 4; i++) {
            due(NONE, x.at(0, i / 2, i % 2, 0));
            due(50, x.lane(0, i / 2, i % 2, 0));
            due(50, x.lane(0, i / 2, i % 2, 1));
        }
        due(1, x.lane(0, 0, 1, 4));
        x.open(1);
        int high = come(x, 1, 50, 2, 1, 1);
        x.settle(500);
        stands(x, high, 0, 0, 0);
        due(0, x.ticketOf(high, CABIN));
        due(0, x.ticketOf(1, CABIN));
        due(NONE, x.audit(0, 0, 0));
    }

    private static void departTellsHowMany() {
        sentence("Promise 10", "how many are CARRIED.");
        Terminal empty = opened(1, 100);
        due(0, empty.depart(0));
        for (int many = 1; many <= 5; many++) {
            Terminal x = opened(1, 100);
            for (int i = 0; i < many; i++) {
                come(x, 0, 20);
            }
            x.settle(500);
            come(x, 0, 100, 0, 0, 1);
            x.settle(500);
            x.book(0, 20, 0, 0);
            due(many, x.depart(0));
        }
    }

    private static void departRefused() {
        sentence("Promise 10", "NONE, doing nothing: none such, or it has TURNS.");
        Terminal x = opened(1, 100);
        x.sailing(0, 2000, 0);
        x.book(0, 20, 0, 0);
        for (int sailing : noneSuch(2)) {
            refused(x, NONE, y -> y.depart(sailing));
        }
        refused(x, NONE, y -> y.depart(1));
        x.arrive(0, 1);
        refused(x, NONE, y -> y.depart(0));
        x.settle(500);
        due(1, x.depart(0));
        refused(x, NONE, y -> y.depart(0));
        refused(new Terminal(), NONE, y -> y.depart(0));
    }

    // ---- promise 11

    private static void offByHand() {
        sentence("Promise 11", "A vehicle ABOARD an OPEN sailing is brought off by hand,");
        Terminal x = opened(1, 100);
        int ticket = come(x, 0, 20);
        x.settle(500);
        due(1, x.off(ticket));
        due(0, x.shipOf(0, 5));
        due(NONE, x.at(0, 0, 0, 0));
        due(3, x.count(4));
        due(3, x.sailingOf(0, 4));
        due(2, x.settle(500));
        how(x, ticket, ABOARD);
        due(1, x.off(ticket));
        due(2, x.settle(500));
        due(1, x.depart(0));
        refused(x, 0, y -> y.off(ticket));
    }

    private static void offIfNothingStandsBehind() {
        sentence("Promise 11", "if nothing stands behind it in its lane (farther from the bow):");
        Terminal x = new Terminal();
        x.ship(2, 2, 60, false);
        x.sailing(0, 1000, 0);
        x.open(0);
        for (int i = 0; i < 12; i++) {
            come(x, 0, 20);
        }
        x.settle(500);
        for (int lane = 0; lane < 4; lane++) {
            for (int i = 0; i < 2; i++) {
                int ticket = 3 * lane + i;
                due(ticket, x.at(0, lane / 2, lane % 2, 20 * i));
                refused(x, 0, y -> y.off(ticket));
            }
        }
        int[] order = {5, 2, 11, 8, 4, 3, 10, 9, 1, 7, 6, 0};
        for (int ticket : order) {
            due(1, x.off(ticket));
            how(x, ticket, CHECKED);
        }
        due(0, x.shipOf(0, 5));
    }

    private static void offChecksAndFreesTheCabin() {
        sentence("Promise 11", "it's CHECKED, its cabin free: true.");
        Terminal x = opened(2, 50);
        x.cabin(0, 1);
        int first = come(x, 0, 50, 0, 1, 7);
        int second = come(x, 0, 50, 0, 1, 8);
        x.settle(500);
        due(0, x.ticketOf(first, CABIN));
        due(NONE, x.ticketOf(second, CABIN));
        due(1, x.off(first));
        how(x, first, CHECKED);
        stands(x, first, NONE, NONE, NONE);
        due(NONE, x.ticketOf(first, CABIN));
        due(7, x.ticketOf(first, MINUTE));
        due(50, x.lane(0, 0, 0, 0));
        due(1, x.off(second));
        int high = come(x, 0, 50, 2, 1, 9);
        x.settle(500);
        due(0, x.ticketOf(high, CABIN));
        due(NONE, x.ticketOf(first, CABIN));
        how(x, first, ABOARD);
        how(x, second, LEFT);
    }

    private static void offRefusedNoneSuch() {
        sentence("Promise 11", "False, doing nothing: none such,");
        Terminal x = opened(1, 50);
        refused(x, 0, y -> y.off(0));
        x.book(0, 50, 0, 0);
        x.book(0, 50, 0, 0);
        x.book(0, 50, 0, 0);
        for (int ticket : noneSuch(3)) {
            refused(x, 0, y -> y.off(ticket));
        }
        refused(x, 0, y -> y.off(0));
        x.arrive(0, 1);
        refused(x, 0, y -> y.off(0));
        x.settle(1);
        how(x, 0, CHECKED);
        refused(x, 0, y -> y.off(0));
        x.settle(500);
        for (int ticket : noneSuch(3)) {
            refused(x, 0, y -> y.off(ticket));
        }
        x.arrive(1, 1);
        x.settle(500);
        how(x, 1, LEFT);
        refused(x, 0, y -> y.off(1));
        due(1, x.depart(0));
        int[] hows = {CARRIED, PAID_BACK, GONE_WITHOUT};
        for (int i = 0; i < 3; i++) {
            int ticket = i;
            how(x, i, hows[i]);
            refused(x, 0, y -> y.off(ticket));
        }
    }

    private static void offRefusedSomethingStandsThere() {
        sentence("Promise 11", "something stands there,");
        Terminal x = opened(2, 100);
        come(x, 0, 80);
        come(x, 0, 80);
        int behind = come(x, 0, 20);
        x.settle(500);
        stands(x, behind, 0, 0, 80);
        refused(x, 0, y -> y.off(0));
        due(1, x.off(1));
        refused(x, 0, y -> y.off(0));
        due(1, x.off(behind));
        due(1, x.off(0));
    }

    private static void offRefusedBeforeCabinOrTally() {
        sentence("Promise 11", "its CABIN or TALLY TURN is still to come,");
        for (int wish = 0; wish <= 1; wish++) {
            Terminal x = opened(2, 50);
            x.cabin(0, 1);
            int first = come(x, 0, 50, 0, wish, 1);
            int second = come(x, 0, 50, 0, wish, 1);
            due(3, x.settle(3));
            how(x, first, ABOARD);
            for (int turn = 0; turn <= wish; turn++) {
                refused(x, 0, y -> y.off(first));
                due(1, x.settle(1));
            }
            Terminal tallied = x.again();
            due(1, tallied.off(first));
            due(1, x.settle(1));
            how(x, second, ABOARD);
            refused(x, 0, y -> y.off(second));
            due(1, x.off(first));
            how(x, first, CHECKED);
            due(1, x.settle(1));
            logged(x, 5 + wish, wish == 0 ? 5 : 3, second, 0);
        }
    }

    private static void offRefusedWhenARecallIsAsked() {
        sentence("Promise 11", "or a recall is asked.");
        Terminal x = opened(1, 50);
        come(x, 0, 20);
        x.settle(500);
        x.book(0, 20, 0, 0);
        Terminal pending = x.again();
        pending.arrive(1, 1);
        due(1, pending.recall(0, 1000));
        due(1000, pending.sailingOf(0, TILL_RECALL));
        refused(pending, 0, y -> y.off(0));
        due(1, x.recall(0, 0));
        how(x, 0, ABOARD);
        refused(x, 0, y -> y.off(0));
        due(1, x.settle(1));
        how(x, 0, CHECKED);
        refused(x, 0, y -> y.off(0));
    }

    // ---- promises 12 to 14

    private static void shipOfEach() {
        sentence("Promise 12", "Of ship: 0 DECKS, 1 LANES, 2 LENGTH, 3 whether it's HALF, 4 its cabins, "
                + "5 vehicles that stand on it.");
        Terminal x = new Terminal();
        x.ship(4, 6, 2000, true);
        x.ship(1, 1, 50, false);
        x.cabin(1, 1);
        x.cabin(1, 6);
        x.sailing(1, 1000, 0);
        x.open(0);
        come(x, 0, 25);
        come(x, 0, 25);
        come(x, 0, 25);
        int[][] want = {{4, 6, 2000, 1, 0, 0}, {1, 1, 50, 0, 2, 0}};
        for (int ship = 0; ship < 2; ship++) {
            for (int what = 0; what <= 5; what++) {
                due(want[ship][what], x.shipOf(ship, what));
            }
        }
        due(4, x.settle(4));
        due(1, x.shipOf(1, 5));
        due(4, x.settle(500));
        due(2, x.shipOf(1, 5));
        due(1, x.off(1));
        due(1, x.shipOf(1, 5));
        x.settle(500);
        x.recall(0, 0);
        x.settle(1);
        due(1, x.shipOf(1, 5));
        x.settle(500);
        due(0, x.shipOf(1, 5));
        due(0, x.shipOf(0, 5));
    }

    private static void shipOfNoneSuch() {
        sentence("Promise 12", "NONE where there is none such.");
        Terminal x = new Terminal();
        due(NONE, x.shipOf(0, 0));
        x.ship(2, 2, 100, true);
        x.ship(2, 2, 100, true);
        for (int what = 0; what <= 5; what++) {
            for (int ship : noneSuch(2)) {
                due(NONE, x.shipOf(ship, what));
            }
        }
        for (int what : outside(0, 5)) {
            due(NONE, x.shipOf(0, what));
            due(NONE, x.shipOf(1, what));
        }
    }

    private static void sailingOfEach() {
        sentence("Promise 13", "Of sailing: 0 ship, 1 MINUTE, 2 LINE, 3 how it is (0 PLANNED, 1 OPEN, 2 DEPARTED, "
                + "3 RECALLED), 4 TURNS done,");
        Terminal x = new Terminal();
        x.ship(1, 1, 100, false);
        x.ship(1, 1, 100, false);
        x.sailing(1, 100000, 7);
        x.sailing(0, 0, 0);
        due(1, x.sailingOf(0, 0));
        due(100000, x.sailingOf(0, 1));
        due(7, x.sailingOf(0, 2));
        due(0, x.sailingOf(1, 0));
        due(0, x.sailingOf(1, 1));
        due(0, x.sailingOf(1, 2));
        due(0, x.sailingOf(0, 3));
        x.open(0);
        x.open(1);
        due(1, x.sailingOf(0, 3));
        come(x, 0, 20);
        for (int turn = 0; turn < 3; turn++) {
            due(turn, x.sailingOf(0, 4));
            due(1, x.settle(1));
        }
        due(3, x.sailingOf(0, 4));
        due(0, x.sailingOf(1, 4));
        x.recall(0, 0);
        due(2, x.settle(500));
        due(5, x.sailingOf(0, 4));
        due(3, x.sailingOf(0, 3));
        x.depart(1);
        due(2, x.sailingOf(1, 3));
        due(0, x.sailingOf(1, 4));
    }

    private static void sailingOfTillRecall() {
        sentence("Promise 13", "5 TURNS till a recall takes effect (NONE: none asked; 0: it has),");
        Terminal x = opened(1, 100);
        x.sailing(0, 2000, 0);
        come(x, 0, 20);
        due(NONE, x.sailingOf(0, 5));
        due(NONE, x.sailingOf(1, 5));
        x.recall(0, 2);
        due(2, x.sailingOf(0, 5));
        x.settle(1);
        due(1, x.sailingOf(0, 5));
        x.settle(1);
        due(0, x.sailingOf(0, 5));
        x.settle(1);
        due(0, x.sailingOf(0, 5));
        x.settle(500);
        state(x, 0, RECALLED);
        due(0, x.sailingOf(0, 5));
        due(NONE, x.sailingOf(1, 5));
        x.open(1);
        x.settle(500);
        due(NONE, x.sailingOf(1, 5));
        x.depart(1);
        due(NONE, x.sailingOf(1, 5));
    }

    private static void sailingOfItsTickets() {
        sentence("Promise 13", "6 tickets that are its.");
        Terminal x = opened(1, 50);
        x.sailing(0, 2000, 0);
        due(0, x.sailingOf(0, 6));
        for (int i = 0; i < 5; i++) {
            x.book(i == 2 ? 1 : 0, 50, 0, 0);
        }
        due(4, x.sailingOf(0, 6));
        due(1, x.sailingOf(1, 6));
        x.arrive(0, 1);
        x.arrive(1, 1);
        x.settle(500);
        x.depart(0);
        due(4, x.sailingOf(0, 6));
        x.open(1);
        x.recall(1, 0);
        x.settle(500);
        how(x, 2, PAID_BACK);
        due(1, x.sailingOf(1, 6));
    }

    private static void sailingOfNoneSuch() {
        sentence("Promise 13", "NONE where there is none such.");
        Terminal x = new Terminal();
        due(NONE, x.sailingOf(0, 0));
        x.ship(1, 1, 100, false);
        x.sailing(0, 1000, 3);
        x.sailing(0, 2000, 3);
        for (int what = 0; what <= 6; what++) {
            for (int sailing : noneSuch(2)) {
                due(NONE, x.sailingOf(sailing, what));
            }
        }
        for (int what : outside(0, 6)) {
            due(NONE, x.sailingOf(0, what));
            due(NONE, x.sailingOf(1, what));
        }
    }

    private static void ticketOfEach() {
        sentence("Promise 14", "Of ticket: 0 its sailing, 1 length, 2 HEIGHT, 3 WISH, 4 HOW it is,");
        Terminal x = new Terminal();
        x.ship(1, 1, 2000, false);
        x.sailing(0, 1000, 0);
        x.sailing(0, 2000, 0);
        int[][] made = {{1, 250, 2, 6}, {0, 20, 0, 0}, {1, 133, 1, 3}};
        for (int i = 0; i < made.length; i++) {
            due(i, x.book(made[i][0], made[i][1], made[i][2], made[i][3]));
        }
        for (int i = 0; i < made.length; i++) {
            for (int what = 0; what <= 3; what++) {
                due(made[i][what], x.ticketOf(i, what));
            }
            due(BOOKED, x.ticketOf(i, 4));
        }
    }

    private static void ticketOfMinute() {
        sentence("Promise 14", "5 the minute at which it came (NONE),");
        Terminal x = opened(1, 50);
        x.book(0, 50, 0, 0);
        x.book(0, 50, 0, 0);
        x.book(0, 50, 0, 0);
        due(NONE, x.ticketOf(0, 5));
        x.arrive(0, 0);
        x.arrive(1, 200000);
        for (int turn = 0; turn < 6; turn++) {
            due(0, x.ticketOf(0, 5));
            due(200000, x.ticketOf(1, 5));
            due(turn < 5 ? 1 : 0, x.settle(1));
        }
        x.depart(0);
        due(0, x.ticketOf(0, 5));
        due(200000, x.ticketOf(1, 5));
        due(NONE, x.ticketOf(2, 5));
    }

    private static void ticketOfPlaces() {
        sentence("Promise 14", "6 deck, 7 lane, 8 place (NONE if not ABOARD),");
        Terminal x = new Terminal();
        x.ship(4, 6, 50, false);
        x.sailing(0, 1000, 0);
        x.open(0);
        for (int i = 0; i < 25; i++) {
            come(x, 0, i < 24 ? 29 : 21, 0, 0, i);
        }
        stands(x, 0, NONE, NONE, NONE);
        due(25, x.settle(25));
        stands(x, 0, NONE, NONE, NONE);
        x.settle(500);
        for (int i = 0; i < 24; i++) {
            stands(x, i, i / 6, i % 6, 0);
        }
        stands(x, 24, 0, 0, 29);
        int left = come(x, 0, 50);
        x.settle(500);
        stands(x, left, NONE, NONE, NONE);
        due(1, x.off(23));
        stands(x, 23, NONE, NONE, NONE);
        x.settle(500);
        x.depart(0);
        stands(x, 23, NONE, NONE, NONE);
    }

    private static void ticketOfItsCabin() {
        sentence("Promise 14", "9 its cabin (NONE; also of those CARRIED the one that it had),");
        Terminal x = opened(1, 100);
        x.cabin(0, 1);
        x.cabin(0, 2);
        int two = come(x, 0, 20, 0, 2, 1);
        int none = come(x, 0, 20, 0, 2, 1);
        int plain = come(x, 0, 20, 0, 0, 1);
        int one = come(x, 0, 20, 0, 1, 1);
        x.settle(5);
        due(NONE, x.ticketOf(two, 9));
        x.settle(1);
        due(1, x.ticketOf(two, 9));
        x.settle(500);
        for (int round = 0; round < 2; round++) {
            due(1, x.ticketOf(two, 9));
            due(NONE, x.ticketOf(none, 9));
            due(NONE, x.ticketOf(plain, 9));
            due(0, x.ticketOf(one, 9));
            x.depart(0);
        }
        how(x, one, CARRIED);
    }

    private static void ticketOfMoney() {
        sentence("Promise 14", "10 what it paid, 11 what was paid back, 12 how often it went ON.");
        Terminal x = new Terminal();
        for (int i = 0; i < 3; i++) {
            x.ship(1, 1, 100, false);
            x.sailing(i, 1000 + i, 7);
        }
        int ticket = x.book(0, 21, 0, 0);
        for (int on = 0; on < 3; on++) {
            due(760, x.ticketOf(ticket, 10));
            due(0, x.ticketOf(ticket, 11));
            due(on, x.ticketOf(ticket, 12));
            x.open(on);
            x.recall(on, 0);
            due(1, x.settle(1));
        }
        due(760, x.ticketOf(ticket, 10));
        due(760, x.ticketOf(ticket, 11));
        due(2, x.ticketOf(ticket, 12));
    }

    private static void ticketOfNoneSuch() {
        sentence("Promise 14", "NONE where there is none such.");
        Terminal x = opened(1, 100);
        due(NONE, x.ticketOf(0, 0));
        x.book(0, 20, 1, 2);
        x.book(0, 20, 1, 2);
        for (int what = 0; what <= 12; what++) {
            for (int ticket : noneSuch(2)) {
                due(NONE, x.ticketOf(ticket, what));
            }
        }
        for (int what : outside(0, 12)) {
            due(NONE, x.ticketOf(0, what));
            due(NONE, x.ticketOf(1, what));
        }
    }

    // ---- promises 18 to 20

    private static void countOfEach() {
        sentence("Promise 18", "How many 0 ships, 1 cabins, 2 sailings, 3 tickets, 4 TURNS ever.");
        Terminal x = new Terminal();
        int[] made = new int[5];
        x.ship(1, 1, 100, false);
        made[0]++;
        counts(x, made);
        for (int i = 0; i < 5; i++) {
            x.cabin(0, 1);
            made[1]++;
        }
        counts(x, made);
        for (int i = 0; i < 4; i++) {
            x.sailing(0, 90 * i, 0);
            made[2]++;
        }
        counts(x, made);
        for (int i = 0; i < 3; i++) {
            come(x, 0, 20);
            made[3]++;
        }
        counts(x, made);
        x.open(0);
        made[4] += x.settle(4);
        counts(x, made);
        made[4] += x.settle(500);
        x.recall(0, 0);
        made[4] += x.settle(500);
        due(9 + 6, made[4]);
        counts(x, made);
        x.open(1);
        made[4] += x.settle(500);
        x.depart(1);
        due(24, made[4]);
        counts(x, made);
    }

    private static void counts(Terminal x, int[] made) {
        for (int what = 0; what < made.length; what++) {
            due(made[what], x.count(what));
        }
    }

    private static void countNoneForOthers() {
        sentence("Promise 18", "NONE for others.");
        Terminal x = opened(1, 100);
        come(x, 0, 20);
        x.settle(500);
        for (int what : outside(0, 4)) {
            due(NONE, x.count(what));
            due(NONE, new Terminal().count(what));
        }
    }

    private static void totalOfEach() {
        sentence("Promise 19", "Of a sailing's tickets that are ABOARD or CARRIED: 0 how many, 1 their lengths,");
        Terminal x = opened(1, 100);
        x.sailing(0, 2000, 0);
        totals(x, 0, 0, 0, 0, 0);
        come(x, 0, 30);
        come(x, 0, 31);
        come(x, 0, 40);
        x.book(0, 20, 0, 0);
        come(x, 1, 33);
        totals(x, 0, 0, 0, 0, 0);
        x.settle(3);
        totals(x, 0, 0, 0, 0, 0);
        x.settle(1);
        totals(x, 0, 1, 30, 0, 590);
        x.settle(500);
        how(x, 2, LEFT);
        totals(x, 0, 2, 61, 0, 590 + 593);
        totals(x, 1, 0, 0, 0, 0);
        x.depart(0);
        totals(x, 0, 2, 61, 0, 590 + 593);
        x.open(1);
        x.settle(500);
        totals(x, 1, 1, 33, 0, 599);
        totals(x, 0, 2, 61, 0, 590 + 593);
        due(1, x.off(4));
        totals(x, 1, 0, 0, 0, 0);
        x.recall(1, 0);
        x.settle(500);
        totals(x, 1, 0, 0, 0, 0);
    }

    private static void totals(Terminal x, int sailing, int... want) {
        for (int what = 0; what < want.length; what++) {
            due(want[what], x.total(sailing, what));
        }
    }

    private static void totalBedsOfThoseWithACabin() {
        sentence("Promise 19", "2 beds wished by those with a cabin, 3 FARES.");
        Terminal x = opened(1, 100);
        x.cabin(0, 6);
        x.cabin(0, 4);
        int[] wishes = {1, 5, 3, 0};
        for (int wish : wishes) {
            come(x, 0, 20, 0, wish, 1);
        }
        x.settle(5);
        totals(x, 0, 1, 20, 0, 2060);
        x.settle(1);
        totals(x, 0, 1, 20, 1, 2060);
        x.settle(500);
        due(0, x.ticketOf(0, CABIN));
        due(NONE, x.ticketOf(1, CABIN));
        due(1, x.ticketOf(2, CABIN));
        totals(x, 0, 4, 80, 4, 4 * 560 + 9 * 1500);
        x.depart(0);
        totals(x, 0, 4, 80, 4, 4 * 560 + 9 * 1500);
    }

    private static void totalNoneSuch() {
        sentence("Promise 19", "NONE where there is none such.");
        Terminal x = opened(1, 100);
        x.sailing(0, 2000, 0);
        come(x, 0, 20);
        x.settle(500);
        due(560, x.total(0, 3));
        for (int what = 0; what <= 3; what++) {
            for (int sailing : noneSuch(2)) {
                due(NONE, x.total(sailing, what));
            }
        }
        for (int what : outside(0, 3)) {
            due(NONE, x.total(0, what));
            due(NONE, x.total(1, what));
        }
        due(NONE, new Terminal().total(0, 0));
    }

    private static void keptLessPaidBack() {
        sentence("Promise 20", "What all paid, less what was paid back.");
        Terminal x = opened(1, 50);
        due(0, x.kept());
        come(x, 0, 50);
        due(650, x.kept());
        x.book(0, 21, 0, 0);
        due(650 + 563, x.kept());
        come(x, 0, 23);
        due(650 + 563 + 569, x.kept());
        x.settle(500);
        due(650 + 563 + 569, x.kept());
        x.depart(0);
        due(650 + 563 - 281, x.kept());
        x.sailing(0, 2000, 0);
        x.book(1, 50, 2, 6);
        due(932 + 11050, x.kept());
        x.open(1);
        x.recall(1, 0);
        due(932 + 11050, x.kept());
        x.settle(1);
        due(932, x.kept());
        Terminal all = new Terminal();
        all.ship(1, 1, 250, false);
        all.sailing(0, 1000, 7);
        for (int i = 0; i < 400; i++) {
            all.book(0, 250, 2, 6);
        }
        due(400L * 15728, all.kept());
        all.open(0);
        due(0, all.depart(0));
        due(400L * 7864, all.kept());
    }
}
