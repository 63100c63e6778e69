/** The boundary cases of recalls and of the LOG: Terms 3 from the recall on, Promises 8 and 17. */
final class EdgesOfRecalls extends Edges {
    static void run() {
        takesEffectAfterSoManyTurns();
        takesEffectAtOnceFor0();
        takesEffectWhenThereIsNoTurn();
        staysInEffect();
        whatGoesOnIsDropped();
        latestIsBroughtOffFirst();
        offFreesTheCabin();
        thenEachByNumbers();
        onOrPaidBackAll();
        recalledAsSoonAsThereAreNone();
        recalledAtOnce();
        goesOnWithItsLine();
        goesOnWithPlannedOrOpen();
        goesOnWithTheLeastMinuteAbove();
        goesOnWithTheLeastNumber();
        goesOnWithLanesAsLong();
        goesOnWhereNoRecallIsAsked();
        itsTicketThen();
        bookedIfItWasBooked();
        logOfEachTurn();
        logOfEachKind();
        logKeepsTheFirst3000();
        recallOfAnOpenSailing();
        recallN0To1000();
        recallRefusedNoneSuch();
        recallRefusedAskedAlready();
        recallRefusedNoSuchN();
        logTellsAnEntry();
        logNoneSuch();
    }

    /** Ships of one lane each, and a sailing of each: rows of the ship's LENGTH, the minute and the line. */
    private static Terminal fleet(int[]... sailings) {
        Terminal x = new Terminal();
        for (int i = 0; i < sailings.length; i++) {
            due(i, x.ship(1, 1, sailings[i][0], false));
            due(i, x.sailing(i, sailings[i][1], sailings[i][2]));
        }
        return x;
    }

    /** Opens sailing 0, whose ticket 0 has come, recalls it at once, and does the one TURN: where it went. */
    private static void goes(Terminal x, int to) {
        due(1, x.open(0));
        due(1, x.recall(0, 0));
        due(1, x.settle(1));
        logged(x, x.count(4) - 1, to == NONE ? 8 : 7, 0, 0);
        due(to == NONE ? 0 : to, x.ticketOf(0, 0));
        how(x, 0, to == NONE ? PAID_BACK : HERE);
        state(x, 0, RECALLED);
    }

    private static void takesEffectAfterSoManyTurns() {
        sentence("Terms 3", "A recall asked for takes effect when so many TURNS more were done since it was asked");
        for (int n = 1; n <= 6; n++) {
            Terminal x = opened(1, 200);
            come(x, 0, 20);
            come(x, 0, 20);
            come(x, 0, 20);
            due(2, x.settle(2));
            due(1, x.recall(0, n));
            for (int left = n; left > 0; left--) {
                due(left, x.sailingOf(0, TILL_RECALL));
                due(1, x.settle(1));
            }
            due(0, x.sailingOf(0, TILL_RECALL));
            due(1, x.settle(1));
            due(n == 1 ? 8 : 6, x.log(2 + n, 0));
        }
        turnsOfOthersDoNotCount();
    }

    private static void turnsOfOthersDoNotCount() {
        Terminal x = fleet(new int[] {100, 1000, 0}, new int[] {100, 1000, 1});
        x.open(0);
        x.open(1);
        come(x, 0, 20);
        come(x, 1, 20);
        come(x, 1, 20);
        due(1, x.recall(1, 2));
        due(3, x.settle(3));
        due(3, x.sailingOf(0, 4));
        due(2, x.sailingOf(1, TILL_RECALL));
        due(1, x.settle(1));
        due(1, x.sailingOf(1, TILL_RECALL));
        due(NONE, x.sailingOf(0, TILL_RECALL));
    }

    private static void takesEffectAtOnceFor0() {
        sentence("Terms 3", "(at once for 0),");
        Terminal x = opened(1, 200);
        int ticket = come(x, 0, 20);
        due(1, x.recall(0, 0));
        due(0, x.sailingOf(0, TILL_RECALL));
        due(0, x.count(4));
        how(x, ticket, HERE);
        due(1, x.settle(1));
        logged(x, 0, 8, ticket, 0);
        Terminal aboard = opened(1, 200);
        come(aboard, 0, 20);
        come(aboard, 0, 20);
        aboard.settle(4);
        due(1, aboard.recall(0, 0));
        due(1, aboard.settle(1));
        logged(aboard, 4, 6, 0, 0);
    }

    private static void takesEffectWhenThereIsNoTurn() {
        sentence("Terms 3", "or as soon as there is no TURN of (a) to (c);");
        Terminal booked = opened(1, 50);
        booked.book(0, 20, 0, 0);
        due(1, booked.recall(0, 1));
        due(0, booked.sailingOf(0, TILL_RECALL));
        state(booked, 0, OPEN);
        Terminal x = opened(1, 50);
        come(x, 0, 40, 0, 1, 1);
        come(x, 0, 40);
        due(6, x.settle(500));
        how(x, 1, LEFT);
        due(1, x.recall(0, 1000));
        due(0, x.sailingOf(0, TILL_RECALL));
        Terminal turns = opened(1, 50);
        come(turns, 0, 40, 0, 1, 1);
        come(turns, 0, 40);
        due(1, turns.recall(0, 1000));
        for (int done = 1; done <= 5; done++) {
            due(1, turns.settle(1));
            due(1000 - done, turns.sailingOf(0, TILL_RECALL));
        }
        due(1, turns.settle(1));
        logged(turns, 5, 2, 1, 0);
        due(0, turns.sailingOf(0, TILL_RECALL));
        state(turns, 0, OPEN);
        due(1, turns.settle(1));
        logged(turns, 6, 6, 0, 0);
        Terminal tally = opened(1, 50);
        come(tally, 0, 40);
        tally.settle(2);
        due(1, tally.recall(0, 1000));
        due(1000, tally.sailingOf(0, TILL_RECALL));
        due(2, tally.settle(2));
        logged(tally, 2, 5, 0, 0);
        logged(tally, 3, 6, 0, 0);
    }

    private static void staysInEffect() {
        sentence("Terms 3", "it stays so.");
        Terminal x = fleet(new int[] {100, 1000, 0}, new int[] {100, 2000, 0});
        x.open(0);
        come(x, 0, 20);
        x.book(0, 20, 0, 0);
        x.settle(500);
        due(1, x.recall(0, 900));
        due(0, x.sailingOf(0, TILL_RECALL));
        due(1, x.arrive(1, 7));
        due(0, x.sailingOf(0, TILL_RECALL));
        due(1, x.settle(1));
        logged(x, 3, 6, 0, 0);
        how(x, 0, CHECKED);
        how(x, 1, HERE);
        due(0, x.sailingOf(0, TILL_RECALL));
        due(2, x.settle(500));
        logged(x, 4, 7, 0, 0);
        logged(x, 5, 7, 1, 0);
        due(0, x.sailingOf(0, TILL_RECALL));
        due(7, x.ticketOf(1, MINUTE));
    }

    private static void whatGoesOnIsDropped() {
        sentence("Terms 3", "What (b) would go on with is dropped.");
        for (int done = 2; done <= 3; done++) {
            Terminal x = fleet(new int[] {100, 1000, 0}, new int[] {100, 2000, 0});
            x.cabin(0, 2);
            x.open(0);
            come(x, 0, 20, 0, 2, 1);
            due(done, x.settle(done));
            due(1, x.recall(0, 0));
            due(2, x.settle(500));
            logged(x, done, 6, 0, 0);
            logged(x, done + 1, 7, 0, 0);
            state(x, 0, RECALLED);
            due(NONE, x.ticketOf(0, CABIN));
            x.open(1);
            due(4, x.settle(500));
            logged(x, done + 2, 0, 0, 1);
            logged(x, done + 3, 1, 0, 1);
            logged(x, done + 4, 4, 0, 1);
            logged(x, done + 5, 5, 0, 1);
            due(1, x.off(0));
        }
        Terminal counted = opened(1, 100);
        counted.cabin(0, 2);
        come(counted, 0, 20, 0, 2, 1);
        due(2, counted.settle(2));
        due(1, counted.recall(0, 1));
        due(2, counted.settle(2));
        logged(counted, 2, 3, 0, 0);
        logged(counted, 3, 6, 0, 0);
    }

    private static void latestIsBroughtOffFirst() {
        sentence("Terms 3", "RECALL TURNS: each that is ABOARD, the latest first, is brought OFF");
        Terminal x = opened(3, 100);
        int[] lengths = {100, 60, 40, 70, 30};
        int[] heights = {0, 1, 2, 0, 1};
        for (int i = 0; i < lengths.length; i++) {
            come(x, 0, lengths[i], heights[i], 0, 1);
        }
        due(15, x.settle(500));
        int[] order = {2, 1, 4, 0, 3};
        for (int i = 0; i < 5; i++) {
            logged(x, 5 + 2 * i, 1, order[i], 0);
        }
        due(1, x.off(1));
        due(2, x.settle(500));
        due(1, x.recall(0, 0));
        int[] reverse = {1, 3, 0, 4, 2};
        for (int i = 0; i < 5; i++) {
            how(x, reverse[i], ABOARD);
            due(1, x.settle(1));
            logged(x, 17 + i, 6, reverse[i], 0);
            how(x, reverse[i], CHECKED);
            due(4 - i, x.shipOf(0, 5));
        }
        due(1, x.settle(1));
        logged(x, 22, 8, 0, 0);
    }

    private static void offFreesTheCabin() {
        sentence("Terms 3", "(its cabin is free, it's CHECKED),");
        Terminal x = opened(1, 100);
        x.cabin(0, 2);
        x.cabin(0, 2);
        come(x, 0, 20, 0, 2, 1);
        come(x, 0, 20, 0, 2, 1);
        x.settle(500);
        due(1, x.ticketOf(1, CABIN));
        x.recall(0, 0);
        due(1, x.settle(1));
        how(x, 1, CHECKED);
        stands(x, 1, NONE, NONE, NONE);
        due(NONE, x.ticketOf(1, CABIN));
        due(0, x.ticketOf(0, CABIN));
        due(2, x.total(0, 2));
        due(NONE, x.at(0, 0, 0, 20));
        due(3, x.settle(500));
        x.sailing(0, 1000, 0);
        due(1, x.open(1));
        int first = come(x, 1, 20, 0, 1, 1);
        int second = come(x, 1, 20, 0, 1, 1);
        x.settle(500);
        due(0, x.ticketOf(first, CABIN));
        due(1, x.ticketOf(second, CABIN));
    }

    private static void thenEachByNumbers() {
        sentence("Terms 3", "then each ticket of the sailing that is BOOKED, HERE, CHECKED or LEFT, by numbers,");
        Terminal x = fleet(new int[] {100, 1000, 0}, new int[] {100, 2000, 0});
        for (int i = 0; i < 5; i++) {
            x.book(0, i == 4 ? 100 : 60, 0, 0);
        }
        x.book(1, 20, 0, 0);
        x.open(0);
        x.arrive(4, 1);
        due(3, x.settle(500));
        x.arrive(0, 2);
        due(2, x.settle(500));
        x.arrive(3, 3);
        due(1, x.settle(1));
        x.arrive(1, 4);
        int[] hows = {LEFT, HERE, BOOKED, CHECKED, ABOARD};
        for (int i = 0; i < 5; i++) {
            how(x, i, hows[i]);
        }
        due(1, x.recall(0, 0));
        due(1, x.settle(1));
        logged(x, 6, 6, 4, 0);
        for (int i = 0; i < 5; i++) {
            due(0, x.ticketOf(i, 0));
            due(1, x.settle(1));
            logged(x, 7 + i, 7, i, 0);
            due(1, x.ticketOf(i, 0));
            how(x, i, i == 2 ? BOOKED : HERE);
        }
        due(0, x.settle(500));
    }

    private static void onOrPaidBackAll() {
        sentence("Terms 3", "goes ON or is PAID BACK (all that it paid).");
        Terminal x = fleet(new int[] {100, 1000, 7}, new int[] {60, 2000, 7});
        int[] lengths = {61, 60, 100};
        for (int length : lengths) {
            x.book(0, length, 2, 6);
        }
        x.open(0);
        due(1, x.recall(0, 0));
        due(3, x.settle(500));
        int[] kinds = {8, 7, 8};
        for (int i = 0; i < 3; i++) {
            logged(x, i, kinds[i], i, 0);
            how(x, i, i == 1 ? BOOKED : PAID_BACK);
            due(i == 1 ? 0 : x.ticketOf(i, PAID), x.ticketOf(i, BACK));
            due(i == 1 ? 1 : 0, x.ticketOf(i, TIMES_ON));
            due(i == 1 ? 1 : 0, x.ticketOf(i, 0));
        }
        due(x.ticketOf(1, PAID), x.kept());
        due(2, x.sailingOf(0, 6));
    }

    private static void recalledAsSoonAsThereAreNone() {
        sentence("Terms 3", "The sailing is RECALLED as soon as there are none of these");
        Terminal x = opened(1, 100);
        come(x, 0, 20);
        x.book(0, 20, 0, 0);
        x.settle(500);
        x.recall(0, 0);
        for (int turn = 0; turn < 3; turn++) {
            state(x, 0, OPEN);
            refused(x, 0, y -> y.open(0));
            due(1, x.settle(1));
        }
        state(x, 0, RECALLED);
        due(0, x.sailingOf(0, TILL_RECALL));
        due(2, x.sailingOf(0, 6));
        Terminal one = opened(1, 100);
        come(one, 0, 20);
        due(1, one.recall(0, 1));
        due(1, one.settle(1));
        state(one, 0, OPEN);
        due(1, one.settle(1));
        state(one, 0, RECALLED);
    }

    private static void recalledAtOnce() {
        sentence("Terms 3", "(at once, if there never were).");
        for (int n : new int[] {0, 1, 1000}) {
            Terminal x = opened(1, 100);
            due(1, x.recall(0, n));
            state(x, 0, RECALLED);
            due(0, x.sailingOf(0, TILL_RECALL));
            due(0, x.sailingOf(0, 4));
            due(0, x.settle(500));
            due(1, x.sailing(0, 1000, 0));
            due(1, x.open(1));
        }
        Terminal others = fleet(new int[] {100, 1000, 0}, new int[] {100, 2000, 0});
        come(others, 1, 20);
        others.open(0);
        due(1, others.recall(0, 3));
        state(others, 0, RECALLED);
        how(others, 0, HERE);
        due(1, others.ticketOf(0, 0));
    }

    private static void goesOnWithItsLine() {
        sentence("Terms 3", "It goes ON with the sailing of its LINE,");
        for (int line = 0; line <= 7; line++) {
            int before = (line + 7) % 8;
            int after = (line + 1) % 8;
            Terminal x = fleet(new int[] {100, 1000, line}, new int[] {100, 1001, before},
                    new int[] {100, 1002, after}, new int[] {100, 1003, line});
            come(x, 0, 20);
            goes(x, 3);
            Terminal none = fleet(new int[] {100, 1000, line}, new int[] {100, 1001, before},
                    new int[] {100, 1002, after});
            come(none, 0, 20);
            goes(none, NONE);
        }
    }

    private static void goesOnWithPlannedOrOpen() {
        sentence("Terms 3", "PLANNED or OPEN,");
        Terminal x = fleet(new int[] {100, 1000, 0}, new int[] {100, 1100, 0}, new int[] {100, 1200, 0},
                new int[] {100, 1300, 0}, new int[] {100, 1400, 0});
        come(x, 0, 20);
        x.open(1);
        x.depart(1);
        x.open(2);
        x.recall(2, 0);
        state(x, 2, RECALLED);
        x.open(3);
        Terminal planned = x.again();
        planned.depart(3);
        goes(planned, 4);
        goes(x, 3);
        due(3, x.settle(500));
        how(x, 0, ABOARD);
        Terminal ended = fleet(new int[] {100, 1000, 0}, new int[] {100, 1100, 0}, new int[] {100, 1200, 0});
        come(ended, 0, 20);
        ended.open(1);
        ended.depart(1);
        ended.open(2);
        ended.recall(2, 0);
        goes(ended, NONE);
    }

    private static void goesOnWithTheLeastMinuteAbove() {
        sentence("Terms 3", "of the least MINUTE above");
        Terminal x = fleet(new int[] {100, 1000, 0}, new int[] {100, 1003, 0}, new int[] {100, 1002, 0},
                new int[] {100, 1000, 0}, new int[] {100, 999, 0}, new int[] {100, 100000, 0});
        come(x, 0, 20);
        goes(x, 2);
        Terminal next = fleet(new int[] {100, 1000, 0}, new int[] {100, 1002, 0}, new int[] {100, 1001, 0});
        come(next, 0, 20);
        goes(next, 2);
        Terminal none = fleet(new int[] {100, 1000, 0}, new int[] {100, 1000, 0}, new int[] {100, 999, 0},
                new int[] {100, 0, 0});
        come(none, 0, 20);
        goes(none, NONE);
        Terminal last = fleet(new int[] {100, 99999, 0}, new int[] {100, 100000, 0});
        come(last, 0, 20);
        goes(last, 1);
        Terminal first = fleet(new int[] {100, 0, 0}, new int[] {100, 1, 0});
        come(first, 0, 20);
        goes(first, 1);
        Terminal lessNumber = fleet(new int[] {100, 1001, 0}, new int[] {100, 1000, 0});
        come(lessNumber, 1, 20);
        lessNumber.open(1);
        lessNumber.recall(1, 0);
        due(1, lessNumber.settle(500));
        logged(lessNumber, 0, 7, 0, 1);
        due(0, lessNumber.ticketOf(0, 0));
        Terminal sameShip = fleet(new int[] {100, 1000, 0});
        sameShip.sailing(0, 1090, 0);
        come(sameShip, 0, 20);
        goes(sameShip, 1);
    }

    private static void goesOnWithTheLeastNumber() {
        sentence("Terms 3", "(of several the least number),");
        Terminal x = fleet(new int[] {100, 1000, 0}, new int[] {100, 1200, 0}, new int[] {100, 1100, 0},
                new int[] {100, 1100, 0}, new int[] {100, 1100, 0});
        come(x, 0, 20);
        goes(x, 2);
        Terminal open = fleet(new int[] {100, 1000, 0}, new int[] {100, 1100, 0}, new int[] {100, 1100, 0});
        come(open, 0, 20);
        open.open(2);
        goes(open, 1);
    }

    private static void goesOnWithLanesAsLong() {
        sentence("Terms 3", "whose ship has LANES as long,");
        Terminal x = fleet(new int[] {100, 1000, 0}, new int[] {79, 1100, 0}, new int[] {80, 1200, 0},
                new int[] {81, 1150, 1});
        come(x, 0, 80);
        goes(x, 2);
        Terminal shorter = fleet(new int[] {100, 1000, 0}, new int[] {79, 1100, 0});
        come(shorter, 0, 80);
        goes(shorter, NONE);
        Terminal nearest = fleet(new int[] {100, 1000, 0}, new int[] {79, 1100, 0}, new int[] {80, 1200, 0});
        come(nearest, 0, 79);
        goes(nearest, 1);
        Terminal whole = fleet(new int[] {250, 1000, 0}, new int[] {249, 1100, 0}, new int[] {250, 1200, 0});
        come(whole, 0, 250);
        goes(whole, 2);
    }

    private static void goesOnWhereNoRecallIsAsked() {
        sentence("Terms 3", "and for which no recall is asked:");
        Terminal x = fleet(new int[] {100, 1000, 0}, new int[] {100, 1100, 0}, new int[] {100, 1200, 0});
        come(x, 0, 20);
        come(x, 1, 20);
        x.open(1);
        due(1, x.recall(1, 1000));
        state(x, 1, OPEN);
        Terminal none = x.again();
        goes(x, 2);
        due(1000, x.sailingOf(1, TILL_RECALL));
        none.open(2);
        come(none, 2, 20);
        due(1, none.recall(2, 1));
        none.open(0);
        none.recall(0, 0);
        due(1, none.settle(1));
        logged(none, 0, 8, 0, 0);
        Terminal inEffect = fleet(new int[] {100, 1000, 0}, new int[] {100, 1100, 0});
        come(inEffect, 0, 20);
        inEffect.book(1, 20, 0, 0);
        inEffect.open(1);
        due(1, inEffect.recall(1, 0));
        inEffect.open(0);
        inEffect.recall(0, 0);
        due(1, inEffect.settle(1));
        logged(inEffect, 0, 8, 0, 0);
    }

    private static void itsTicketThen() {
        sentence("Terms 3", "it is its ticket then;");
        Terminal x = fleet(new int[] {100, 1000, 0}, new int[] {100, 1100, 0}, new int[] {100, 1200, 0});
        come(x, 0, 20);
        x.book(0, 20, 0, 0);
        due(2, x.sailingOf(0, 6));
        x.open(0);
        x.recall(0, 0);
        due(1, x.settle(1));
        due(1, x.sailingOf(0, 6));
        due(1, x.sailingOf(1, 6));
        due(1, x.settle(1));
        due(0, x.sailingOf(0, 6));
        due(2, x.sailingOf(1, 6));
        due(1, x.ticketOf(0, 0));
        due(1, x.ticketOf(0, TIMES_ON));
        x.open(1);
        x.recall(1, 0);
        due(2, x.settle(500));
        due(0, x.sailingOf(1, 6));
        due(2, x.sailingOf(2, 6));
        due(2, x.ticketOf(0, TIMES_ON));
        due(2, x.ticketOf(1, TIMES_ON));
        x.open(2);
        due(3, x.settle(500));
        due(1, x.depart(2));
        due(2, x.sailingOf(2, 6));
    }

    private static void bookedIfItWasBooked() {
        sentence("Terms 3", "BOOKED if it was BOOKED, else HERE, with the minute at which it came.");
        Terminal x = fleet(new int[] {50, 1000, 0}, new int[] {50, 1100, 0});
        come(x, 0, 50, 0, 0, 0);
        come(x, 0, 50, 0, 0, 200000);
        x.open(0);
        x.settle(500);
        x.book(0, 50, 0, 0);
        come(x, 0, 50, 0, 0, 7);
        x.settle(1);
        come(x, 0, 50, 0, 0, 8);
        int[] hows = {ABOARD, LEFT, BOOKED, CHECKED, HERE};
        int[] minutes = {0, 200000, NONE, 7, 8};
        for (int i = 0; i < 5; i++) {
            how(x, i, hows[i]);
        }
        x.recall(0, 0);
        due(6, x.settle(500));
        for (int i = 0; i < 5; i++) {
            how(x, i, i == 2 ? BOOKED : HERE);
            due(minutes[i], x.ticketOf(i, MINUTE));
            due(1, x.ticketOf(i, 0));
            stands(x, i, NONE, NONE, NONE);
        }
        due(1, x.arrive(2, 9));
        x.open(1);
        due(3, x.settle(3));
        logged(x, x.count(4) - 1, 0, 4, 1);
        logged(x, x.count(4) - 3, 0, 0, 1);
    }

    // ---- the LOG

    private static void logOfEachTurn() {
        sentence("Terms 3", "The LOG: of each TURN its kind and ticket:");
        Terminal x = opened(1, 100);
        due(NONE, x.log(0, 0));
        come(x, 0, 20, 0, 1, 1);
        for (int turn = 0; turn < 4; turn++) {
            due(NONE, x.log(turn, 0));
            due(NONE, x.log(turn, 1));
            due(1, x.settle(1));
            due(0, x.log(turn, 1));
            due(turn + 1, x.count(4));
        }
        due(0, x.settle(500));
        due(1, x.off(0));
        due(NONE, x.log(4, 0));
        due(4, x.count(4));
    }

    private static void logOfEachKind() {
        sentence("Terms 3", "0 CHECK, 1 ABOARD, 2 LEFT, 3 CABIN, 4 no cabin, 5 TALLY, 6 OFF, 7 ON, 8 PAID BACK.");
        Terminal x = fleet(new int[] {100, 1000, 0}, new int[] {50, 1100, 0});
        x.cabin(0, 1);
        come(x, 0, 40, 0, 1, 1);
        come(x, 0, 60, 0, 1, 2);
        come(x, 0, 20, 0, 1, 3);
        x.open(0);
        due(3 + 4 + 2 + 1, x.settle(500));
        x.recall(0, 0);
        due(2 + 3, x.settle(500));
        int[][] log = {{0, 0}, {0, 1}, {0, 2}, {1, 0}, {3, 0}, {5, 0}, {1, 1}, {4, 1}, {5, 1}, {2, 2}, {6, 1},
            {6, 0}, {7, 0}, {8, 1}, {7, 2}};
        for (int i = 0; i < log.length; i++) {
            logged(x, i, log[i][0], log[i][1], 0);
        }
        due(log.length, x.count(4));
    }

    private static void logKeepsTheFirst3000() {
        sentence("Terms 3", "The first 3,000 are kept.");
        Terminal x = new Terminal();
        x.ship(1, 6, 2000, false);
        for (int i = 0; i < 5; i++) {
            x.sailing(0, 1000 * (i + 1), 0);
        }
        for (int i = 0; i < 120; i++) {
            come(x, 0, 20, 0, 1, 1);
        }
        for (int i = 0; i < 4; i++) {
            x.open(i);
            due(480, x.settle(500));
            due(1, x.recall(i, 0));
            due(240, x.settle(500));
        }
        x.open(4);
        due(119, x.settle(119));
        due(2999, x.count(4));
        due(NONE, x.log(2999, 0));
        due(1, x.settle(1));
        logged(x, 2999, 0, 119, 4);
        due(1, x.settle(1));
        due(3001, x.count(4));
        due(121, x.sailingOf(4, 4));
        logged(x, 2999, 0, 119, 4);
        logged(x, 2998, 0, 118, 4);
        logged(x, 2880, 0, 0, 4);
        logged(x, 2879, 7, 119, 3);
        logged(x, 0, 0, 0, 0);
        for (int what = 0; what <= 2; what++) {
            due(NONE, x.log(3000, what));
            due(NONE, x.log(3001, what));
        }
        due(359, x.settle(500));
        due(3360, x.count(4));
        due(120, x.depart(4));
        logged(x, 2999, 0, 119, 4);
        due(NONE, x.log(3000, 0));
        due(NONE, x.audit(0, 0, 0));
    }

    // ---- promise 8

    private static void recallOfAnOpenSailing() {
        sentence("Promise 8", "A recall of an OPEN sailing is asked,");
        Terminal x = opened(1, 100);
        come(x, 0, 20);
        due(NONE, x.sailingOf(0, TILL_RECALL));
        due(1, x.recall(0, 3));
        due(3, x.sailingOf(0, TILL_RECALL));
        state(x, 0, OPEN);
        refused(x, NONE, y -> y.depart(0));
        refused(x, NONE, y -> y.book(0, 20, 0, 0));
        due(0, x.count(4));
    }

    private static void recallN0To1000() {
        sentence("Promise 8", "to take effect when n (0 to 1,000) TURNS more were done, or there is none: true.");
        for (int n : new int[] {0, 1, 999, 1000}) {
            Terminal x = opened(1, 100);
            come(x, 0, 20);
            come(x, 0, 20);
            due(1, x.recall(0, n));
            due(n, x.sailingOf(0, TILL_RECALL));
            due(1, x.settle(1));
            due(Math.max(n - 1, 0), x.sailingOf(0, TILL_RECALL));
            due(n == 0 ? 8 : 0, x.log(0, 0));
            due(1, x.settle(1));
            due(n == 0 || n == 1 ? 8 : 0, x.log(1, 0));
            Terminal none = opened(1, 100);
            none.book(0, 20, 0, 0);
            due(1, none.recall(0, n));
            due(0, none.sailingOf(0, TILL_RECALL));
        }
        all1000TurnsAreDone();
    }

    private static void all1000TurnsAreDone() {
        Terminal x = opened(6, 2000);
        for (int i = 0; i < 250; i++) {
            come(x, 0, 20, 0, 1, 1);
        }
        due(1, x.recall(0, 1000));
        due(500, x.settle(500));
        due(499, x.settle(499));
        due(1, x.sailingOf(0, TILL_RECALL));
        due(1, x.settle(1));
        due(0, x.sailingOf(0, TILL_RECALL));
        due(1, x.settle(1));
        due(6, x.log(1000, 0));
    }

    private static void recallRefusedNoneSuch() {
        sentence("Promise 8", "False, doing nothing: none such,");
        Terminal x = fleet(new int[] {100, 1000, 0}, new int[] {100, 1100, 0});
        come(x, 0, 20);
        for (int sailing : noneSuch(2)) {
            refused(x, 0, y -> y.recall(sailing, 0));
            refused(x, 0, y -> y.recall(sailing, 1));
        }
        refused(x, 0, y -> y.recall(0, 0));
        refused(x, 0, y -> y.recall(1, 1000));
        x.open(0);
        x.open(1);
        x.settle(500);
        x.depart(0);
        refused(x, 0, y -> y.recall(0, 0));
        refused(x, 0, y -> y.recall(0, 5));
        due(1, x.recall(1, 0));
        refused(x, 0, y -> y.recall(1, 0));
        refused(new Terminal(), 0, y -> y.recall(0, 0));
    }

    private static void recallRefusedAskedAlready() {
        sentence("Promise 8", "one is asked already,");
        Terminal x = opened(1, 100);
        come(x, 0, 20);
        come(x, 0, 20);
        due(1, x.recall(0, 2));
        for (int n : new int[] {0, 1, 2, 3, 1000}) {
            refused(x, 0, y -> y.recall(0, n));
        }
        due(2, x.settle(2));
        due(0, x.sailingOf(0, TILL_RECALL));
        state(x, 0, OPEN);
        refused(x, 0, y -> y.recall(0, 0));
        refused(x, 0, y -> y.recall(0, 9));
    }

    private static void recallRefusedNoSuchN() {
        sentence("Promise 8", "no such n.");
        Terminal x = opened(1, 100);
        come(x, 0, 20);
        for (int n : outside(0, 1000)) {
            refused(x, 0, y -> y.recall(0, n));
        }
        x.settle(500);
        refused(x, 0, y -> y.recall(0, -1));
        refused(x, 0, y -> y.recall(0, 1001));
        due(NONE, x.sailingOf(0, TILL_RECALL));
        due(1, x.recall(0, 1000));
    }

    // ---- promise 17

    private static void logTellsAnEntry() {
        sentence("Promise 17", "Entry i of the LOG: its kind (what 0), ticket (1), sailing (2).");
        Terminal x = fleet(new int[] {100, 1000, 0}, new int[] {100, 1100, 0}, new int[] {100, 1200, 0});
        x.open(1);
        come(x, 2, 20);
        come(x, 1, 20);
        due(3, x.settle(500));
        logged(x, 0, 0, 1, 1);
        logged(x, 1, 1, 1, 1);
        logged(x, 2, 5, 1, 1);
        x.recall(1, 0);
        due(2, x.settle(500));
        logged(x, 3, 6, 1, 1);
        logged(x, 4, 7, 1, 1);
        due(2, x.ticketOf(1, 0));
        x.open(2);
        due(1, x.settle(1));
        logged(x, 5, 0, 0, 2);
    }

    private static void logNoneSuch() {
        sentence("Promise 17", "NONE where there is none such.");
        Terminal x = opened(1, 100);
        for (int what = 0; what <= 2; what++) {
            due(NONE, x.log(0, what));
            due(NONE, x.log(-1, what));
        }
        come(x, 0, 20);
        due(3, x.settle(500));
        for (int what = 0; what <= 2; what++) {
            due(what == 0 ? 5 : 0, x.log(2, what));
            for (int i : noneSuch(3)) {
                due(NONE, x.log(i, what));
            }
            due(NONE, x.log(3000, what));
            due(NONE, x.log(2999, what));
        }
        for (int what : outside(0, 2)) {
            due(NONE, x.log(0, what));
            due(NONE, x.log(2, what));
        }
    }
}
