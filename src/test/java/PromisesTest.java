/** Each promise of the document with ordinary inputs, with the edges that it names, and with wrong inputs. */
public final class PromisesTest {
    private static final int BOOKED = 0;
    private static final int HERE = 1;
    private static final int CHECKED = 2;
    private static final int ABOARD = 3;
    private static final int LEFT = 4;
    private static final int PAID_BACK = 5;
    private static final int CARRIED = 6;
    private static final int GONE_WITHOUT = 7;
    private static final int NONE = FerryTerminal.NONE;
    private static final int[] EDGES = {Integer.MIN_VALUE, -2, -1, 1000000, Integer.MAX_VALUE};

    private static int wrong = 0;
    private static String part = "";

    private static void due(String call, long got, long want) {
        if (got != want) {
            wrong++;
            System.out.println(part + ": " + call + " answered " + got + ", due is " + want);
        }
    }

    private static void due(String call, boolean got, boolean want) {
        due(call, got ? 1 : 0, want ? 1 : 0);
    }

    public static void main(String[] args) {
        part = "promise 1";
        newObject();
        part = "promise 2";
        ships();
        part = "promise 3";
        cabins();
        part = "promise 4";
        sailings();
        part = "promise 5";
        bookings();
        fares();
        part = "promise 6";
        arrivals();
        part = "promise 7";
        openings();
        part = "promise 8";
        recallsCountDown();
        recallsTakeEffectWithoutTurns();
        recallsDropWhatGoesOn();
        recallsRefused();
        part = "promise 9";
        settleChecksFirst();
        settleBoardsByTheList();
        settleGivesCabins();
        settleTakesTheFirstSailing();
        settleLimits();
        deckRuleHeights();
        deckRuleLeastFree();
        deckRuleFirstGap();
        halfDeckClosesTheDeckAbove();
        halfDeckClosesTheLanesBelow();
        recallBringsOffInReverse();
        recallMovesOn();
        recallPaysBack();
        part = "promise 10";
        departures();
        departuresRefused();
        part = "promise 11";
        offByHand();
        offRefused();
        part = "promise 12";
        questionsOfShips();
        part = "promise 13";
        questionsOfSailings();
        part = "promise 14";
        questionsOfTickets();
        part = "promise 15";
        questionsOfPlaces();
        part = "promise 16";
        questionsOfLanes();
        part = "promise 17";
        theLog();
        theLogIsKeptTo3000();
        part = "promise 18";
        counts();
        part = "promise 19";
        totals();
        part = "promise 20";
        keptMoney();
        part = "promise 21";
        auditAgrees();
        auditOfHow();
        auditOfPlaces();
        auditOfCabins();
        auditOfMinutes();
        auditOfMoney();
        auditRefused();
        System.out.println(wrong == 0 ? "PromisesTest: all as due" : "PromisesTest: " + wrong + " wrong");
        if (wrong != 0) {
            System.exit(1);
        }
    }

    // ---- helpers that build a state

    /** A ship of one deck with so many lanes of a length, and an OPEN sailing of it at minute 1000, line 0. */
    private static FerryTerminal opened(int lanes, int length) {
        FerryTerminal x = new FerryTerminal();
        x.ship(1, lanes, length, false);
        x.sailing(0, 1000, 0);
        x.open(0);
        return x;
    }

    private static int come(FerryTerminal x, int sailing, int length, int height, int wish, int minute) {
        int ticket = x.book(sailing, length, height, wish);
        due("arrive(" + ticket + ", " + minute + ")", x.arrive(ticket, minute), true);
        return ticket;
    }

    private static int how(FerryTerminal x, int ticket) {
        return x.ticketOf(ticket, 4);
    }

    private static void stands(FerryTerminal x, int ticket, int deck, int lane, int place) {
        due("deck of " + ticket, x.ticketOf(ticket, 6), deck);
        due("lane of " + ticket, x.ticketOf(ticket, 7), lane);
        due("place of " + ticket, x.ticketOf(ticket, 8), place);
    }

    private static void logged(FerryTerminal x, int i, int kind, int ticket, int sailing) {
        due("log(" + i + ", 0)", x.log(i, 0), kind);
        due("log(" + i + ", 1)", x.log(i, 1), ticket);
        due("log(" + i + ", 2)", x.log(i, 2), sailing);
    }

    // ---- promises 1 to 7

    private static void newObject() {
        FerryTerminal x = new FerryTerminal();
        due("NONE", FerryTerminal.NONE, -1);
        for (int what = 0; what <= 4; what++) {
            due("count(" + what + ")", x.count(what), 0);
        }
        due("kept()", x.kept(), 0);
        due("shipOf(0, 0)", x.shipOf(0, 0), NONE);
        due("sailingOf(0, 0)", x.sailingOf(0, 0), NONE);
        due("ticketOf(0, 0)", x.ticketOf(0, 0), NONE);
        due("log(0, 0)", x.log(0, 0), NONE);
        due("settle(500)", x.settle(500), 0);
        due("audit(0, 0, 0)", x.audit(0, 0, 0), NONE);
        due("audit(0, 4, 0)", x.audit(0, 4, 0), -2);
    }

    private static void ships() {
        FerryTerminal x = new FerryTerminal();
        due("decks 0", x.ship(0, 1, 100, false), NONE);
        due("decks 5", x.ship(5, 1, 100, false), NONE);
        due("lanes 0", x.ship(1, 0, 100, false), NONE);
        due("lanes 7", x.ship(1, 7, 100, false), NONE);
        due("length 49", x.ship(1, 1, 49, false), NONE);
        due("length 2001", x.ship(1, 1, 2001, false), NONE);
        due("half, 1 deck", x.ship(1, 2, 100, true), NONE);
        due("half, 1 lane", x.ship(2, 1, 100, true), NONE);
        for (int edge : EDGES) {
            due("decks " + edge, x.ship(edge, 2, 100, false), NONE);
            due("lanes " + edge, x.ship(2, edge, 100, false), NONE);
            due("length " + edge, x.ship(2, 2, edge, false), NONE);
        }
        due("none made", x.count(0), 0);
        due("least", x.ship(1, 1, 50, false), 0);
        due("most", x.ship(4, 6, 2000, true), 1);
        due("least half", x.ship(2, 2, 100, true), 2);
        for (int i = 3; i < 12; i++) {
            due("ship " + i, x.ship(1, 1, 100, false), i);
        }
        due("a 13th", x.ship(1, 1, 100, false), NONE);
        due("count(0)", x.count(0), 12);
    }

    private static void cabins() {
        FerryTerminal x = new FerryTerminal();
        due("no ship", x.cabin(0, 2), NONE);
        x.ship(1, 1, 100, false);
        x.ship(1, 1, 100, false);
        due("beds 0", x.cabin(0, 0), NONE);
        due("beds 7", x.cabin(0, 7), NONE);
        for (int edge : EDGES) {
            due("ship " + edge, x.cabin(edge, 2), NONE);
            due("beds " + edge, x.cabin(0, edge), NONE);
        }
        due("ship 2", x.cabin(2, 1), NONE);
        due("none made", x.count(1), 0);
        due("one bed", x.cabin(1, 1), 0);
        due("six beds", x.cabin(0, 6), 1);
        for (int i = 2; i < 120; i++) {
            due("cabin " + i, x.cabin(1, 2), i);
        }
        due("a 121st", x.cabin(0, 2), NONE);
        due("count(1)", x.count(1), 120);
        due("cabins of 0", x.shipOf(0, 4), 1);
        due("cabins of 1", x.shipOf(1, 4), 119);
    }

    private static void sailings() {
        FerryTerminal x = new FerryTerminal();
        due("no ship", x.sailing(0, 500, 0), NONE);
        x.ship(1, 1, 100, false);
        x.ship(1, 1, 100, false);
        due("minute -1", x.sailing(0, -1, 0), NONE);
        due("minute 100001", x.sailing(0, 100001, 0), NONE);
        due("line -1", x.sailing(0, 500, -1), NONE);
        due("line 8", x.sailing(0, 500, 8), NONE);
        for (int edge : EDGES) {
            due("ship " + edge, x.sailing(edge, 500, 0), NONE);
            due("minute " + edge, x.sailing(0, edge, 0), NONE);
            due("line " + edge, x.sailing(0, 500, edge), NONE);
        }
        due("first minute", x.sailing(0, 0, 0), 0);
        due("last minute", x.sailing(0, 100000, 7), 1);
        due("89 after", x.sailing(0, 89, 0), NONE);
        due("90 after", x.sailing(0, 90, 0), 2);
        due("89 before", x.sailing(0, 99911, 0), NONE);
        due("90 before", x.sailing(0, 99910, 0), 3);
        due("the same minute", x.sailing(0, 90, 1), NONE);
        due("another ship", x.sailing(1, 90, 1), 4);
        x.open(2);
        due("recalled at once", x.recall(2, 7), true);
        due("near one RECALLED", x.sailing(0, 91, 0), 5);
        x.open(5);
        due("depart(5)", x.depart(5), 0);
        due("near one DEPARTED", x.sailing(0, 180, 0), NONE);
        FerryTerminal y = new FerryTerminal();
        y.ship(1, 1, 100, false);
        for (int i = 0; i < 60; i++) {
            due("sailing " + i, y.sailing(0, 90 * i, 0), i);
        }
        due("a 61st", y.sailing(0, 9000, 0), NONE);
        due("count(2)", y.count(2), 60);
    }

    private static void bookings() {
        FerryTerminal x = new FerryTerminal();
        x.ship(1, 1, 200, false);
        due("no sailing", x.book(0, 50, 0, 0), NONE);
        x.sailing(0, 1000, 0);
        due("length 19", x.book(0, 19, 0, 0), NONE);
        due("length 251", x.book(0, 251, 0, 0), NONE);
        due("height -1", x.book(0, 50, -1, 0), NONE);
        due("height 3", x.book(0, 50, 3, 0), NONE);
        due("wish -1", x.book(0, 50, 0, -1), NONE);
        due("wish 7", x.book(0, 50, 0, 7), NONE);
        due("longer than the lanes", x.book(0, 201, 0, 0), NONE);
        for (int edge : EDGES) {
            due("sailing " + edge, x.book(edge, 50, 0, 0), NONE);
            due("length " + edge, x.book(0, edge, 0, 0), NONE);
            due("height " + edge, x.book(0, 50, edge, 0), NONE);
            due("wish " + edge, x.book(0, 50, 0, edge), NONE);
        }
        due("none made", x.count(3), 0);
        due("as long as the lanes", x.book(0, 200, 2, 6), 0);
        due("the shortest", x.book(0, 20, 0, 0), 1);
        x.open(0);
        due("on an OPEN one", x.book(0, 20, 0, 0), 2);
        x.arrive(0, 10);
        x.recall(0, 1);
        due("while a recall is asked", x.book(0, 20, 0, 0), NONE);
        x.settle(500);
        due("RECALLED", x.sailingOf(0, 3), 3);
        due("on a RECALLED one", x.book(0, 20, 0, 0), NONE);
        x.sailing(0, 2000, 0);
        x.open(1);
        x.depart(1);
        due("on a DEPARTED one", x.book(1, 20, 0, 0), NONE);
        FerryTerminal y = new FerryTerminal();
        y.ship(1, 1, 2000, false);
        y.sailing(0, 0, 0);
        due("the longest", y.book(0, 250, 0, 0), 0);
        for (int i = 1; i < 400; i++) {
            due("ticket " + i, y.book(0, 20, 0, 0), i);
        }
        due("a 401st", y.book(0, 20, 0, 0), NONE);
        due("count(3)", y.count(3), 400);
    }

    private static void fares() {
        FerryTerminal x = new FerryTerminal();
        x.ship(1, 1, 2000, false);
        for (int line = 0; line < 8; line++) {
            x.sailing(0, 100 * line, line);
        }
        due("least fare", x.ticketOf(x.book(0, 20, 0, 0), 10), 560);
        due("greatest fare", x.ticketOf(x.book(7, 250, 2, 6), 10), 15728);
        due("a half goes up", x.ticketOf(x.book(1, 50, 2, 0), 10), 2153);
        due("below a half goes down", x.ticketOf(x.book(1, 21, 0, 0), 10), 591);
        due("above a half goes up", x.ticketOf(x.book(1, 23, 0, 0), 10), 597);
        due("height 1, line 2", x.ticketOf(x.book(2, 100, 1, 1), 10), 3300);
    }

    private static void arrivals() {
        FerryTerminal x = new FerryTerminal();
        x.ship(1, 1, 200, false);
        x.sailing(0, 1000, 0);
        due("no ticket", x.arrive(0, 10), false);
        x.book(0, 20, 0, 0);
        x.book(0, 20, 0, 0);
        x.book(0, 20, 0, 0);
        due("minute -1", x.arrive(0, -1), false);
        due("minute 200001", x.arrive(0, 200001), false);
        for (int edge : EDGES) {
            due("ticket " + edge, x.arrive(edge, 10), false);
            due("minute " + edge, x.arrive(0, edge), false);
        }
        due("still BOOKED", how(x, 0), BOOKED);
        due("came", x.ticketOf(0, 5), NONE);
        due("minute 0, PLANNED", x.arrive(0, 0), true);
        due("HERE", how(x, 0), HERE);
        due("came", x.ticketOf(0, 5), 0);
        due("twice", x.arrive(0, 5), false);
        due("came", x.ticketOf(0, 5), 0);
        x.open(0);
        due("minute 200000, OPEN", x.arrive(1, 200000), true);
        due("came", x.ticketOf(1, 5), 200000);
        x.settle(500);
        x.depart(0);
        due("DEPARTED", x.arrive(2, 10), false);
        due("GONE WITHOUT", how(x, 2), GONE_WITHOUT);
        arrivalsInRecall();
    }

    private static void arrivalsInRecall() {
        FerryTerminal x = opened(1, 200);
        x.book(0, 20, 0, 0);
        x.book(0, 20, 0, 0);
        x.sailing(0, 2000, 0);
        due("in effect at once", x.recall(0, 9), true);
        due("sailingOf(0, 5)", x.sailingOf(0, 5), 0);
        due("comes to a recalled one that is OPEN", x.arrive(1, 77), true);
        due("it stays in effect", x.sailingOf(0, 5), 0);
        due("settle(500)", x.settle(500), 2);
        logged(x, 0, 7, 0, 0);
        logged(x, 1, 7, 1, 0);
        due("BOOKED still", how(x, 0), BOOKED);
        due("HERE still", how(x, 1), HERE);
        due("its minute", x.ticketOf(1, 5), 77);
        due("sailing of 0", x.ticketOf(0, 0), 1);
        due("comes to the next one", x.arrive(0, 78), true);
    }

    private static void openings() {
        FerryTerminal x = new FerryTerminal();
        due("no sailing", x.open(0), false);
        x.ship(1, 1, 200, false);
        x.ship(1, 1, 200, false);
        x.sailing(0, 1000, 0);
        x.sailing(0, 2000, 0);
        x.sailing(1, 1000, 0);
        for (int edge : EDGES) {
            due("open(" + edge + ")", x.open(edge), false);
        }
        due("PLANNED", x.sailingOf(1, 3), 0);
        due("open(1)", x.open(1), true);
        due("OPEN", x.sailingOf(1, 3), 1);
        due("twice", x.open(1), false);
        due("another of the ship is OPEN", x.open(0), false);
        due("another ship", x.open(2), true);
        x.depart(1);
        due("DEPARTED", x.sailingOf(1, 3), 2);
        due("a DEPARTED one", x.open(1), false);
        due("free again", x.open(0), true);
        x.recall(2, 0);
        due("RECALLED", x.sailingOf(2, 3), 3);
        due("a RECALLED one", x.open(2), false);
    }

    // ---- promise 8 and the recall's terms

    private static void recallsCountDown() {
        FerryTerminal x = opened(2, 200);
        for (int i = 0; i < 4; i++) {
            come(x, 0, 50, 0, 0, 10 + i);
        }
        due("none asked", x.sailingOf(0, 5), NONE);
        due("settle(1)", x.settle(1), 1);
        due("recall(0, 4)", x.recall(0, 4), true);
        due("to come", x.sailingOf(0, 5), 4);
        due("settle(3)", x.settle(3), 3);
        due("to come", x.sailingOf(0, 5), 1);
        due("all are CHECKED", how(x, 3), CHECKED);
        due("settle(1)", x.settle(1), 1);
        due("it has", x.sailingOf(0, 5), 0);
        due("one is ABOARD", how(x, 0), ABOARD);
        due("OPEN still", x.sailingOf(0, 3), 1);
        due("settle(1)", x.settle(1), 1);
        logged(x, 4, 1, 0, 0);
        logged(x, 5, 6, 0, 0);
        due("turns of the sailing", x.sailingOf(0, 4), 6);
    }

    private static void recallsTakeEffectWithoutTurns() {
        FerryTerminal x = opened(1, 200);
        due("no tickets", x.recall(0, 1000), true);
        due("it has", x.sailingOf(0, 5), 0);
        due("RECALLED at once", x.sailingOf(0, 3), 3);
        FerryTerminal y = opened(1, 200);
        y.book(0, 20, 0, 0);
        due("one BOOKED", y.recall(0, 1000), true);
        due("it has", y.sailingOf(0, 5), 0);
        due("OPEN still", y.sailingOf(0, 3), 1);
        due("settle(500)", y.settle(500), 1);
        due("RECALLED", y.sailingOf(0, 3), 3);
        FerryTerminal z = opened(1, 200);
        come(z, 0, 20, 0, 0, 1);
        due("one HERE", z.recall(0, 1000), true);
        due("to come", z.sailingOf(0, 5), 1000);
        due("settle(2)", z.settle(2), 2);
        due("to come", z.sailingOf(0, 5), 998);
        due("settle(1)", z.settle(1), 1);
        due("no turn is left", z.sailingOf(0, 5), 0);
        due("it stands", how(z, 0), ABOARD);
        due("settle(1)", z.settle(1), 1);
        due("brought off", how(z, 0), CHECKED);
        due("it stays in effect", z.sailingOf(0, 5), 0);
        due("settle(1)", z.settle(1), 1);
        due("PAID BACK", how(z, 0), PAID_BACK);
        due("RECALLED", z.sailingOf(0, 3), 3);
        due("settle(1)", z.settle(1), 0);
    }

    private static void recallsDropWhatGoesOn() {
        FerryTerminal x = opened(1, 200);
        x.cabin(0, 2);
        come(x, 0, 20, 0, 2, 1);
        x.settle(2);
        due("ABOARD", how(x, 0), ABOARD);
        due("recall(0, 0)", x.recall(0, 0), true);
        due("it has", x.sailingOf(0, 5), 0);
        due("settle(1)", x.settle(1), 1);
        logged(x, 2, 6, 0, 0);
        due("no cabin", x.ticketOf(0, 9), NONE);
    }

    private static void recallsRefused() {
        FerryTerminal x = new FerryTerminal();
        due("no sailing", x.recall(0, 0), false);
        x.ship(1, 1, 200, false);
        x.sailing(0, 1000, 0);
        due("PLANNED", x.recall(0, 0), false);
        due("none asked", x.sailingOf(0, 5), NONE);
        x.open(0);
        come(x, 0, 20, 0, 0, 1);
        due("n -1", x.recall(0, -1), false);
        due("n 1001", x.recall(0, 1001), false);
        for (int edge : EDGES) {
            due("n " + edge, x.recall(0, edge), false);
            due("sailing " + edge, x.recall(edge, 0), false);
        }
        due("none asked", x.sailingOf(0, 5), NONE);
        due("n 1000", x.recall(0, 1000), true);
        due("asked already", x.recall(0, 2), false);
        due("to come", x.sailingOf(0, 5), 1000);
        x.sailing(0, 2000, 1);
        due("the ship's is OPEN still", x.open(1), false);
        x.settle(500);
        due("RECALLED", x.recall(0, 0), false);
        x.open(1);
        x.depart(1);
        due("DEPARTED", x.recall(1, 0), false);
    }

    // ---- promise 9 and the turns' terms

    private static void settleChecksFirst() {
        FerryTerminal x = opened(2, 200);
        x.cabin(0, 1);
        come(x, 0, 20, 0, 1, 50);
        come(x, 0, 20, 0, 0, 40);
        come(x, 0, 20, 0, 0, 40);
        due("settle(4)", x.settle(4), 4);
        logged(x, 0, 0, 1, 0);
        logged(x, 1, 0, 2, 0);
        logged(x, 2, 0, 0, 0);
        logged(x, 3, 1, 0, 0);
        come(x, 0, 20, 0, 0, 1);
        due("settle(2)", x.settle(2), 2);
        logged(x, 4, 0, 3, 0);
        logged(x, 5, 3, 0, 0);
        come(x, 0, 20, 0, 0, 2);
        due("settle(2)", x.settle(2), 2);
        logged(x, 6, 0, 4, 0);
        logged(x, 7, 5, 0, 0);
        due("settle(1)", x.settle(1), 1);
        logged(x, 8, 1, 1, 0);
    }

    private static void settleBoardsByTheList() {
        FerryTerminal x = opened(6, 2000);
        int late = come(x, 0, 20, 2, 0, 971);
        int low = come(x, 0, 20, 0, 0, 970);
        int middle = come(x, 0, 20, 1, 0, 960);
        int high = come(x, 0, 20, 2, 0, 969);
        int later = come(x, 0, 20, 1, 0, 5000);
        int middleToo = come(x, 0, 20, 1, 0, 1);
        due("settle(500)", x.settle(500), 18);
        int[] order = {high, middle, middleToo, low, late, later};
        for (int i = 0; i < order.length; i++) {
            logged(x, 6 + 2 * i, 1, order[i], 0);
            logged(x, 7 + 2 * i, 5, order[i], 0);
        }
    }

    private static void settleGivesCabins() {
        FerryTerminal x = new FerryTerminal();
        x.ship(1, 1, 200, false);
        x.ship(1, 1, 200, false);
        x.cabin(1, 6);
        x.cabin(0, 1);
        x.cabin(0, 6);
        x.cabin(0, 2);
        x.sailing(0, 1000, 0);
        x.open(0);
        for (int wish : new int[] {2, 2, 1, 1, 0}) {
            come(x, 0, 20, 0, wish, 1);
        }
        due("settle(500)", x.settle(500), 5 + 4 * 3 + 2);
        due("the least with beds enough", x.ticketOf(0, 9), 2);
        due("the next one", x.ticketOf(1, 9), 3);
        due("the least of all", x.ticketOf(2, 9), 1);
        due("none is left", x.ticketOf(3, 9), NONE);
        due("none was wished", x.ticketOf(4, 9), NONE);
        logged(x, 6, 3, 0, 0);
        logged(x, 7, 5, 0, 0);
        logged(x, 15, 4, 3, 0);
        logged(x, 16, 5, 3, 0);
        logged(x, 17, 1, 4, 0);
        logged(x, 18, 5, 4, 0);
        x.depart(0);
        x.sailing(0, 2000, 0);
        x.open(1);
        int again = come(x, 1, 20, 0, 6, 1);
        x.settle(500);
        due("cabins are free after it", x.ticketOf(again, 9), 2);
        due("the CARRIED one's", x.ticketOf(0, 9), 2);
    }

    private static void settleTakesTheFirstSailing() {
        FerryTerminal x = new FerryTerminal();
        for (int i = 0; i < 3; i++) {
            x.ship(1, 1, 200, false);
            x.sailing(i, 1000 - i, 0);
        }
        come(x, 2, 20, 0, 0, 1);
        come(x, 1, 20, 0, 0, 1);
        come(x, 0, 20, 0, 0, 1);
        x.open(2);
        x.open(1);
        due("settle(4)", x.settle(4), 4);
        logged(x, 0, 0, 1, 1);
        logged(x, 2, 5, 1, 1);
        logged(x, 3, 0, 0, 2);
        x.open(0);
        due("settle(1)", x.settle(1), 1);
        logged(x, 4, 0, 2, 0);
        due("turns of 1", x.sailingOf(1, 4), 3);
        due("a recall turn of 1 comes ahead of 2", x.recall(1, 0), true);
        due("settle(4)", x.settle(4), 4);
        logged(x, 5, 1, 2, 0);
        logged(x, 6, 5, 2, 0);
        logged(x, 7, 6, 1, 1);
        logged(x, 8, 7, 1, 1);
        due("settle(1)", x.settle(1), 1);
        logged(x, 9, 0, 1, 0);
    }

    private static void settleLimits() {
        FerryTerminal x = opened(1, 200);
        come(x, 0, 20, 0, 0, 1);
        due("n -1", x.settle(-1), NONE);
        due("n 501", x.settle(501), NONE);
        for (int edge : EDGES) {
            due("settle(" + edge + ")", x.settle(edge), NONE);
        }
        due("n 0", x.settle(0), 0);
        due("nothing was done", x.count(4), 0);
        due("n 500", x.settle(500), 3);
        due("n 500", x.settle(500), 0);
        FerryTerminal y = opened(1, 20 * 90);
        for (int i = 0; i < 170; i++) {
            come(y, 0, 20, 0, 0, i);
        }
        due("as many as it may", y.settle(500), 170 + 2 * 90 + 80);
        due("LEFT", how(y, 169), LEFT);
    }

    private static void deckRuleHeights() {
        FerryTerminal x = new FerryTerminal();
        x.ship(4, 1, 100, false);
        x.sailing(0, 1000, 0);
        x.open(0);
        for (int height : new int[] {2, 2, 1, 1, 0, 0, 0}) {
            come(x, 0, 100, height, 0, 1);
        }
        due("settle(500)", x.settle(500), 7 + 4 * 2 + 3);
        stands(x, 0, 0, 0, 0);
        due("HEIGHT 2 on deck 0 alone", how(x, 1), LEFT);
        stands(x, 1, NONE, NONE, NONE);
        stands(x, 2, 1, 0, 0);
        due("HEIGHT 1 on decks 0 and 1", how(x, 3), LEFT);
        stands(x, 4, 2, 0, 0);
        stands(x, 5, 3, 0, 0);
        due("no deck is left", how(x, 6), LEFT);
        logged(x, 9, 2, 1, 0);
        logged(x, 10, 1, 2, 0);
    }

    private static void deckRuleLeastFree() {
        FerryTerminal x = new FerryTerminal();
        x.ship(2, 2, 100, false);
        x.sailing(0, 1000, 0);
        x.open(0);
        for (int length : new int[] {60, 50, 40, 50, 70, 20, 30, 20}) {
            come(x, 0, length, 0, 0, 1);
        }
        x.settle(500);
        stands(x, 0, 0, 0, 0);
        stands(x, 1, 0, 1, 0);
        stands(x, 2, 0, 0, 60);
        stands(x, 3, 0, 1, 50);
        stands(x, 4, 1, 0, 0);
        stands(x, 5, 1, 0, 70);
        stands(x, 6, 1, 1, 0);
        stands(x, 7, 1, 1, 30);
        FerryTerminal y = opened(3, 100);
        for (int length : new int[] {50, 60, 70, 30, 40, 50}) {
            come(y, 0, length, 0, 0, 1);
        }
        y.settle(500);
        stands(y, 2, 0, 2, 0);
        stands(y, 3, 0, 2, 70);
        stands(y, 4, 0, 1, 60);
        stands(y, 5, 0, 0, 50);
    }

    private static void deckRuleFirstGap() {
        FerryTerminal x = opened(2, 300);
        int[] lengths = {30, 60, 50, 60, 40, 60};
        for (int length : lengths) {
            come(x, 0, length, 0, 0, 1);
        }
        x.settle(500);
        stands(x, 5, 0, 0, 240);
        due("one in the midst can't leave", x.off(2), false);
        for (int i = 5; i >= 2; i--) {
            due("off(" + i + ")", x.off(i), true);
        }
        int one = come(x, 0, 25, 2, 0, 1);
        x.settle(500);
        stands(x, one, 0, 0, 90);
        stands(x, 2, 0, 0, 115);
        stands(x, 3, 0, 0, 165);
        stands(x, 4, 0, 0, 225);
        stands(x, 5, 0, 1, 0);
        due("free", x.lane(0, 0, 0, 0), 35);
        int fits = come(x, 0, 35, 0, 0, 1);
        int more = come(x, 0, 20, 0, 0, 1);
        x.settle(500);
        stands(x, fits, 0, 0, 265);
        stands(x, more, 0, 1, 60);
    }

    private static FerryTerminal halfShip() {
        FerryTerminal x = new FerryTerminal();
        x.ship(3, 3, 100, true);
        x.sailing(0, 1000, 0);
        x.open(0);
        return x;
    }

    private static void halfDeckClosesTheDeckAbove() {
        FerryTerminal x = halfShip();
        int high = come(x, 0, 40, 2, 0, 1);
        x.settle(500);
        stands(x, high, 0, 0, 0);
        for (int height = 0; height <= 2; height++) {
            due("deck 1, height " + height, x.lane(0, 1, 2, 2 + height), 0);
            due("deck 2, height " + height, x.lane(0, 2, 0, 2 + height), height == 0 ? 1 : 0);
            due("under, height " + height, x.lane(0, 0, 1, 2 + height), 1);
        }
        come(x, 0, 100, 1, 0, 1);
        come(x, 0, 100, 1, 0, 1);
        come(x, 0, 100, 1, 0, 1);
        come(x, 0, 100, 0, 0, 1);
        x.settle(500);
        stands(x, 1, 0, 1, 0);
        stands(x, 2, 0, 2, 0);
        due("deck 1 is closed", how(x, 3), LEFT);
        stands(x, 4, 2, 0, 0);
        due("off(high)", x.off(high), true);
        due("deck 1 is open", x.lane(0, 1, 0, 3), 1);
        FerryTerminal y = halfShip();
        come(y, 0, 100, 1, 0, 1);
        come(y, 0, 100, 1, 0, 1);
        y.settle(500);
        int beside = come(y, 0, 100, 2, 0, 1);
        int above = come(y, 0, 100, 1, 0, 1);
        y.settle(500);
        stands(y, beside, 0, 2, 0);
        stands(y, above, 1, 0, 0);
    }

    private static void halfDeckClosesTheLanesBelow() {
        FerryTerminal x = halfShip();
        for (int i = 0; i < 6; i++) {
            come(x, 0, i == 5 ? 20 : 100 - i, 0, 0, 1);
        }
        x.settle(500);
        stands(x, 3, 1, 0, 0);
        stands(x, 5, 1, 2, 0);
        due("off(0)", x.off(0), true);
        due("off(1)", x.off(1), true);
        due("off(3)", x.off(3), true);
        due("off(4)", x.off(4), true);
        for (int lane = 0; lane < 3; lane++) {
            due("HEIGHT 2 in lane " + lane, x.lane(0, 0, lane, 4), lane < 2 ? 0 : 1);
            due("HEIGHT 1 in lane " + lane, x.lane(0, 0, lane, 3), 1);
        }
        due("off(5)", x.off(5), true);
        due("HEIGHT 2 in lane 0", x.lane(0, 0, 0, 4), 1);
        x.settle(500);
        for (int i = 0; i < 6; i++) {
            due("off(" + i + ")", i == 3 || x.off(i), true);
        }
        stands(x, 3, 1, 0, 0);
        due("lane 0 of deck 1 alone", x.shipOf(0, 5), 1);
        due("HEIGHT 2 in lane 1", x.lane(0, 0, 1, 4), 0);
        FerryTerminal y = new FerryTerminal();
        y.ship(3, 3, 100, false);
        y.sailing(0, 1000, 0);
        y.open(0);
        come(y, 0, 60, 2, 0, 1);
        y.settle(500);
        due("not HALF: deck 1 is open", y.lane(0, 1, 0, 2), 1);
        due("not HALF: HEIGHT 1 too", y.lane(0, 1, 0, 3), 1);
    }

    private static void recallBringsOffInReverse() {
        FerryTerminal x = opened(2, 200);
        x.cabin(0, 2);
        come(x, 0, 60, 0, 2, 1);
        come(x, 0, 60, 1, 0, 1);
        come(x, 0, 60, 0, 0, 1);
        x.settle(500);
        due("off(2)", x.off(2), true);
        due("off(0)", x.off(0), true);
        x.settle(500);
        due("cabin", x.ticketOf(0, 9), 0);
        due("turns", x.count(4), 15);
        due("recall(0, 500)", x.recall(0, 500), true);
        due("settle(1)", x.settle(1), 1);
        logged(x, 15, 6, 2, 0);
        due("CHECKED", how(x, 2), CHECKED);
        stands(x, 2, NONE, NONE, NONE);
        due("settle(2)", x.settle(2), 2);
        logged(x, 16, 6, 0, 0);
        logged(x, 17, 6, 1, 0);
        due("its cabin is free", x.ticketOf(0, 9), NONE);
        due("nothing stands", x.shipOf(0, 5), 0);
        x.sailing(0, 5000, 3);
        due("settle(500)", x.settle(500), 3);
        due("turns of the sailing", x.sailingOf(0, 4), 21);
        due("open(1)", x.open(1), true);
        int wishing = come(x, 1, 20, 0, 2, 1);
        x.settle(500);
        due("cabin", x.ticketOf(wishing, 9), 0);
    }

    private static void recallMovesOn() {
        FerryTerminal x = new FerryTerminal();
        x.ship(1, 1, 100, false);
        x.ship(1, 1, 99, false);
        x.ship(1, 1, 200, false);
        x.ship(1, 1, 300, false);
        x.sailing(0, 1000, 3);
        x.sailing(2, 1000, 3);
        x.sailing(2, 900, 3);
        x.sailing(1, 1001, 3);
        x.sailing(3, 1100, 2);
        x.sailing(3, 1300, 3);
        x.sailing(2, 1200, 3);
        x.sailing(0, 1200, 3);
        x.open(0);
        come(x, 0, 100, 0, 0, 7);
        come(x, 0, 99, 0, 0, 8);
        come(x, 0, 100, 0, 1, 9);
        x.book(0, 100, 0, 0);
        int paid = x.ticketOf(0, 10);
        due("settle(500)", x.settle(500), 7);
        due("LEFT", how(x, 1), LEFT);
        due("recall(0, 0)", x.recall(0, 0), true);
        due("settle(500)", x.settle(500), 5);
        logged(x, 7, 6, 0, 0);
        logged(x, 8, 7, 0, 0);
        logged(x, 9, 7, 1, 0);
        logged(x, 10, 7, 2, 0);
        logged(x, 11, 7, 3, 0);
        due("of several the least number", x.ticketOf(0, 0), 6);
        due("short enough for the nearest", x.ticketOf(1, 0), 3);
        due("HERE", how(x, 0), HERE);
        due("LEFT, now HERE", how(x, 1), HERE);
        due("BOOKED still", how(x, 3), BOOKED);
        due("its minute", x.ticketOf(0, 5), 7);
        due("it keeps what it paid", x.ticketOf(0, 10), paid);
        due("not paid back", x.ticketOf(0, 11), 0);
        due("went ON", x.ticketOf(0, 12), 1);
        due("tickets of 0", x.sailingOf(0, 6), 0);
        due("tickets of 6", x.sailingOf(6, 6), 3);
        due("RECALLED", x.sailingOf(0, 3), 3);
        x.open(6);
        x.recall(6, 0);
        x.settle(500);
        due("on to 5: 7 isn't above", x.ticketOf(0, 0), 5);
        due("went ON", x.ticketOf(0, 12), 2);
    }

    private static void recallPaysBack() {
        FerryTerminal x = new FerryTerminal();
        for (int i = 0; i < 4; i++) {
            x.ship(1, 1, 100, false);
        }
        x.sailing(0, 1000, 3);
        x.sailing(1, 2000, 3);
        x.sailing(2, 3000, 3);
        x.sailing(3, 4000, 3);
        come(x, 0, 100, 0, 0, 7);
        come(x, 1, 100, 0, 0, 7);
        x.book(0, 50, 0, 0);
        for (int i = 0; i < 3; i++) {
            x.open(i);
        }
        x.recall(1, 900);
        x.depart(2);
        x.open(3);
        x.recall(3, 1);
        due("RECALLED", x.sailingOf(3, 3), 3);
        x.recall(0, 1);
        due("settle(1)", x.settle(1), 1);
        due("settle(2)", x.settle(2), 2);
        logged(x, 1, 8, 0, 0);
        logged(x, 2, 8, 2, 0);
        due("PAID BACK", how(x, 0), PAID_BACK);
        due("all that it paid", x.ticketOf(0, 11), x.ticketOf(0, 10));
        due("its minute stays", x.ticketOf(0, 5), 7);
        due("a BOOKED one", x.ticketOf(2, 11), x.ticketOf(2, 10));
        due("its ticket still", x.sailingOf(0, 6), 2);
        due("never ON", x.ticketOf(0, 12), 0);
        due("kept()", x.kept(), x.ticketOf(1, 10));
        due("audit", x.audit(0, 0, 0), NONE);
    }

    // ---- promises 10 and 11

    private static void departures() {
        FerryTerminal x = opened(1, 100);
        x.cabin(0, 2);
        come(x, 0, 40, 0, 2, 1);
        come(x, 0, 60, 0, 0, 1);
        come(x, 0, 20, 0, 0, 1);
        x.book(0, 21, 0, 0);
        due("settle(500)", x.settle(500), 3 + 3 + 2 + 1);
        due("depart(0)", x.depart(0), 2);
        due("DEPARTED", x.sailingOf(0, 3), 2);
        due("CARRIED", how(x, 0), CARRIED);
        due("CARRIED", how(x, 1), CARRIED);
        due("LEFT is PAID BACK", how(x, 2), PAID_BACK);
        due("all", x.ticketOf(2, 11), 560);
        due("BOOKED is GONE WITHOUT", how(x, 3), GONE_WITHOUT);
        due("half, cut", x.ticketOf(3, 11), 281);
        due("paid", x.ticketOf(3, 10), 563);
        stands(x, 0, NONE, NONE, NONE);
        due("the cabin that it had", x.ticketOf(0, 9), 0);
        due("nothing stands", x.shipOf(0, 5), 0);
        due("at", x.at(0, 0, 0, 0), NONE);
        due("free places", x.lane(0, 0, 0, 0), 100);
        due("no turns were logged", x.count(4), 9);
        due("tickets", x.sailingOf(0, 6), 4);
        due("again", x.depart(0), NONE);
        FerryTerminal y = opened(1, 100);
        come(y, 0, 40, 0, 0, 1);
        y.book(0, 40, 0, 0);
        y.book(0, 40, 0, 0);
        y.settle(500);
        due("one of three is CARRIED", y.depart(0), 1);
        due("kept()", x.kept(), 620 + 3000 + 680 + 563 - 281);
    }

    private static void departuresRefused() {
        FerryTerminal x = new FerryTerminal();
        x.ship(1, 1, 100, false);
        due("no sailing", x.depart(0), NONE);
        x.sailing(0, 1000, 0);
        due("PLANNED", x.depart(0), NONE);
        for (int edge : EDGES) {
            due("depart(" + edge + ")", x.depart(edge), NONE);
        }
        x.open(0);
        x.cabin(0, 1);
        come(x, 0, 40, 0, 1, 1);
        for (int turn = 0; turn < 4; turn++) {
            due("before turn " + turn, x.depart(0), NONE);
            x.settle(1);
        }
        due("off(0)", x.off(0), true);
        due("one is CHECKED", x.depart(0), NONE);
        x.settle(500);
        x.book(0, 20, 0, 0);
        x.recall(0, 0);
        due("a recall is asked", x.depart(0), NONE);
        x.settle(500);
        due("RECALLED", x.depart(0), NONE);
        x.sailing(0, 1000, 0);
        x.open(1);
        due("an empty one", x.depart(1), 0);
    }

    private static void offByHand() {
        FerryTerminal x = opened(1, 100);
        x.cabin(0, 2);
        come(x, 0, 40, 0, 2, 1);
        come(x, 0, 30, 0, 2, 1);
        x.settle(500);
        due("cabin", x.ticketOf(0, 9), 0);
        due("cabin", x.ticketOf(1, 9), NONE);
        due("one stands behind it", x.off(0), false);
        due("ABOARD still", how(x, 0), ABOARD);
        due("off(1)", x.off(1), true);
        due("CHECKED", how(x, 1), CHECKED);
        stands(x, 1, NONE, NONE, NONE);
        due("off(0)", x.off(0), true);
        due("no cabin", x.ticketOf(0, 9), NONE);
        due("nothing stands", x.shipOf(0, 5), 0);
        due("no turns were done", x.sailingOf(0, 4), 8);
        int high = come(x, 0, 20, 2, 2, 1);
        due("settle(500)", x.settle(500), 1 + 3 + 3 + 3);
        due("its cabin is free", x.ticketOf(high, 9), 0);
        stands(x, high, 0, 0, 0);
        stands(x, 0, 0, 0, 20);
        stands(x, 1, 0, 0, 60);
    }

    private static void offRefused() {
        FerryTerminal x = opened(1, 100);
        x.cabin(0, 2);
        due("no ticket", x.off(0), false);
        x.book(0, 40, 0, 2);
        due("BOOKED", x.off(0), false);
        x.arrive(0, 5);
        due("HERE", x.off(0), false);
        x.settle(1);
        due("CHECKED", x.off(0), false);
        x.settle(1);
        due("its CABIN is to come", x.off(0), false);
        x.settle(1);
        due("its TALLY is to come", x.off(0), false);
        x.settle(1);
        for (int edge : EDGES) {
            due("off(" + edge + ")", x.off(edge), false);
        }
        int other = come(x, 0, 20, 0, 0, 1);
        int left = come(x, 0, 100, 0, 0, 1);
        x.settle(500);
        due("LEFT", x.off(left), false);
        due("LEFT still", how(x, left), LEFT);
        come(x, 0, 20, 0, 0, 1);
        x.recall(0, 900);
        due("a recall is asked", x.off(other), false);
        due("ABOARD still", how(x, other), ABOARD);
        FerryTerminal y = opened(2, 100);
        come(y, 0, 60, 0, 0, 1);
        come(y, 0, 60, 0, 0, 1);
        y.settle(4);
        due("another's TALLY is to come", y.ticketOf(0, 4), ABOARD);
        due("settle(1)", y.settle(1), 1);
        due("another lane", y.off(0), true);
        y.settle(500);
        y.depart(0);
        due("CARRIED", y.off(0), false);
    }

    // ---- promises 12 to 20

    private static void questionsOfShips() {
        FerryTerminal x = new FerryTerminal();
        x.ship(3, 4, 500, true);
        x.ship(1, 1, 60, false);
        x.cabin(0, 1);
        x.cabin(0, 2);
        x.sailing(0, 1000, 0);
        x.open(0);
        come(x, 0, 50, 0, 0, 1);
        come(x, 0, 50, 0, 0, 1);
        come(x, 0, 50, 0, 0, 1);
        x.settle(5);
        int[] want = {3, 4, 500, 1, 2, 1};
        int[] wantOther = {1, 1, 60, 0, 0, 0};
        for (int what = 0; what < 6; what++) {
            due("shipOf(0, " + what + ")", x.shipOf(0, what), want[what]);
            due("shipOf(1, " + what + ")", x.shipOf(1, what), wantOther[what]);
            due("shipOf(2, " + what + ")", x.shipOf(2, what), NONE);
        }
        due("shipOf(0, 6)", x.shipOf(0, 6), NONE);
        for (int edge : EDGES) {
            due("shipOf(" + edge + ", 0)", x.shipOf(edge, 0), NONE);
            due("shipOf(0, " + edge + ")", x.shipOf(0, edge), NONE);
        }
        x.settle(500);
        due("all stand", x.shipOf(0, 5), 3);
    }

    private static void questionsOfSailings() {
        FerryTerminal x = new FerryTerminal();
        x.ship(1, 1, 100, false);
        x.ship(1, 1, 100, false);
        x.sailing(1, 777, 5);
        x.book(0, 20, 0, 0);
        x.book(0, 20, 0, 0);
        int[] want = {1, 777, 5, 0, 0, NONE, 2};
        for (int what = 0; what < 7; what++) {
            due("sailingOf(0, " + what + ")", x.sailingOf(0, what), want[what]);
            due("sailingOf(1, " + what + ")", x.sailingOf(1, what), NONE);
        }
        due("sailingOf(0, 7)", x.sailingOf(0, 7), NONE);
        for (int edge : EDGES) {
            due("sailingOf(" + edge + ", 0)", x.sailingOf(edge, 0), NONE);
            due("sailingOf(0, " + edge + ")", x.sailingOf(0, edge), NONE);
        }
        x.open(0);
        x.arrive(1, 5);
        x.settle(2);
        due("turns", x.sailingOf(0, 4), 2);
        due("OPEN", x.sailingOf(0, 3), 1);
        x.recall(0, 0);
        x.settle(500);
        due("turns", x.sailingOf(0, 4), 5);
        due("RECALLED", x.sailingOf(0, 3), 3);
        due("it has", x.sailingOf(0, 5), 0);
        due("PAID BACK are its still", x.sailingOf(0, 6), 2);
    }

    private static void questionsOfTickets() {
        FerryTerminal x = new FerryTerminal();
        x.ship(1, 2, 100, false);
        x.cabin(0, 1);
        x.cabin(0, 4);
        x.sailing(0, 1000, 0);
        x.sailing(0, 2000, 2);
        x.book(1, 30, 0, 3);
        x.book(1, 40, 1, 2);
        int[] booked = {1, 40, 1, 2, BOOKED, NONE, NONE, NONE, NONE, NONE, 4752, 0, 0};
        for (int what = 0; what < 13; what++) {
            due("ticketOf(1, " + what + ")", x.ticketOf(1, what), booked[what]);
            due("ticketOf(2, " + what + ")", x.ticketOf(2, what), NONE);
        }
        x.arrive(1, 300);
        x.arrive(0, 301);
        x.open(1);
        x.settle(500);
        int[] aboard = {1, 40, 1, 2, ABOARD, 300, 0, 0, 0, 1, 4752, 0, 0};
        for (int what = 0; what < 13; what++) {
            due("ticketOf(1, " + what + ")", x.ticketOf(1, what), aboard[what]);
        }
        stands(x, 0, 0, 0, 40);
        due("ticketOf(0, 13)", x.ticketOf(0, 13), NONE);
        for (int edge : EDGES) {
            due("ticketOf(" + edge + ", 1)", x.ticketOf(edge, 1), NONE);
            due("ticketOf(0, " + edge + ")", x.ticketOf(0, edge), NONE);
        }
    }

    private static void questionsOfPlaces() {
        FerryTerminal x = new FerryTerminal();
        x.ship(2, 2, 100, false);
        x.sailing(0, 1000, 0);
        x.open(0);
        come(x, 0, 30, 0, 0, 1);
        come(x, 0, 70, 0, 0, 1);
        come(x, 0, 20, 0, 0, 1);
        x.settle(500);
        due("first place", x.at(0, 0, 0, 0), 0);
        due("last place of 0", x.at(0, 0, 0, 29), 0);
        due("first place of 1", x.at(0, 0, 0, 30), 1);
        due("last place of the lane", x.at(0, 0, 0, 99), 1);
        due("beyond the lane", x.at(0, 0, 0, 100), NONE);
        due("last place of 2", x.at(0, 0, 1, 19), 2);
        due("behind 2", x.at(0, 0, 1, 20), NONE);
        due("deck 1", x.at(0, 1, 0, 0), NONE);
        due("no deck", x.at(0, 2, 0, 0), NONE);
        due("no lane", x.at(0, 0, 2, 0), NONE);
        due("no ship", x.at(1, 0, 0, 0), NONE);
        due("deck 0, lane -2 isn't lane 0", x.at(0, 1, -2, 0), NONE);
        for (int edge : EDGES) {
            due("ship " + edge, x.at(edge, 0, 0, 0), NONE);
            due("deck " + edge, x.at(0, edge, 0, 0), NONE);
            due("lane " + edge, x.at(0, 0, edge, 0), NONE);
            due("place " + edge, x.at(0, 0, 0, edge), NONE);
        }
    }

    private static void questionsOfLanes() {
        FerryTerminal x = new FerryTerminal();
        x.ship(3, 1, 100, false);
        x.sailing(0, 1000, 0);
        x.open(0);
        due("empty", x.lane(0, 0, 0, 0), 100);
        due("empty", x.lane(0, 0, 0, 1), 100);
        come(x, 0, 60, 0, 0, 1);
        x.settle(500);
        due("free", x.lane(0, 0, 0, 0), 40);
        due("gap", x.lane(0, 0, 0, 1), 40);
        come(x, 0, 40, 0, 0, 1);
        x.settle(500);
        due("full", x.lane(0, 0, 0, 0), 0);
        due("no gap", x.lane(0, 0, 0, 1), 0);
        due("it may stand there, full as it is", x.lane(0, 0, 0, 4), 1);
        for (int deck = 0; deck < 3; deck++) {
            for (int height = 0; height < 3; height++) {
                due("deck " + deck + ", height " + height, x.lane(0, deck, 0, 2 + height),
                        height == 0 || deck == 0 || height == 1 && deck == 1 ? 1 : 0);
            }
        }
        due("what 5", x.lane(0, 0, 0, 5), NONE);
        due("no ship", x.lane(1, 0, 0, 0), NONE);
        due("no deck", x.lane(0, 3, 0, 0), NONE);
        due("no lane", x.lane(0, 0, 1, 0), NONE);
        for (int edge : EDGES) {
            due("ship " + edge, x.lane(edge, 0, 0, 0), NONE);
            due("deck " + edge, x.lane(0, edge, 0, 0), NONE);
            due("lane " + edge, x.lane(0, 0, edge, 0), NONE);
            due("what " + edge, x.lane(0, 0, 0, edge), NONE);
        }
    }

    private static void theLog() {
        FerryTerminal x = new FerryTerminal();
        x.ship(1, 1, 100, false);
        x.ship(1, 1, 100, false);
        x.sailing(0, 1000, 0);
        x.sailing(1, 1000, 0);
        x.sailing(1, 2000, 0);
        x.open(1);
        come(x, 0, 20, 0, 0, 1);
        come(x, 1, 20, 0, 3, 1);
        x.settle(4);
        logged(x, 0, 0, 1, 1);
        logged(x, 1, 1, 1, 1);
        logged(x, 2, 4, 1, 1);
        logged(x, 3, 5, 1, 1);
        due("log(4, 0)", x.log(4, 0), NONE);
        x.recall(1, 0);
        x.settle(2);
        logged(x, 4, 6, 1, 1);
        logged(x, 5, 7, 1, 1);
        due("it is of 2 then", x.ticketOf(1, 0), 2);
        due("log(0, 3)", x.log(0, 3), NONE);
        for (int edge : EDGES) {
            due("log(" + edge + ", 0)", x.log(edge, 0), NONE);
            due("log(0, " + edge + ")", x.log(0, edge), NONE);
        }
    }

    private static void theLogIsKeptTo3000() {
        FerryTerminal x = new FerryTerminal();
        x.ship(1, 6, 500, false);
        for (int i = 0; i < 8; i++) {
            x.sailing(0, 1000 * i, 0);
        }
        for (int i = 0; i < 150; i++) {
            come(x, 0, 20, 0, 0, i);
        }
        int turns = 0;
        for (int i = 0; i < 8; i++) {
            x.open(i);
            turns += x.settle(450);
            x.recall(i, 0);
            if (i < 7) {
                turns += x.settle(500);
            }
        }
        due("turns", turns, 8 * 450 + 7 * 300);
        due("count(4)", x.count(4), turns);
        due("log(2999, 0)", x.log(2999, 0) == NONE, false);
        due("log(2999, 1)", x.log(2999, 1) == NONE, false);
        due("log(2999, 2)", x.log(2999, 2), 3);
        for (int what = 0; what < 3; what++) {
            due("log(3000, " + what + ")", x.log(3000, what), NONE);
        }
        due("turns of the last one", x.sailingOf(7, 4), 450);
    }

    private static void counts() {
        FerryTerminal x = new FerryTerminal();
        for (int i = 0; i < 5; i++) {
            x.ship(1, 1, 100, false);
        }
        for (int i = 0; i < 4; i++) {
            x.cabin(0, 1);
        }
        for (int i = 0; i < 3; i++) {
            x.sailing(i, 1000, 0);
        }
        come(x, 0, 20, 0, 0, 1);
        x.book(0, 20, 0, 0);
        x.open(0);
        x.settle(1);
        int[] want = {5, 4, 3, 2, 1};
        for (int what = 0; what < 5; what++) {
            due("count(" + what + ")", x.count(what), want[what]);
        }
        x.recall(0, 0);
        x.settle(500);
        due("RECALL TURNS too", x.count(4), 3);
        due("count(5)", x.count(5), NONE);
        for (int edge : EDGES) {
            due("count(" + edge + ")", x.count(edge), NONE);
        }
    }

    private static void totals() {
        FerryTerminal x = opened(1, 100);
        x.cabin(0, 3);
        come(x, 0, 30, 0, 3, 1);
        come(x, 0, 40, 0, 2, 1);
        come(x, 0, 50, 0, 1, 1);
        x.book(0, 20, 0, 0);
        due("none is ABOARD", x.total(0, 0), 0);
        x.settle(500);
        int[] want = {2, 70, 3, 590 + 4500 + 620 + 3000};
        for (int round = 0; round < 2; round++) {
            for (int what = 0; what < 4; what++) {
                due("total(0, " + what + "), round " + round, x.total(0, what), want[what]);
                due("total(1, " + what + ")", x.total(1, what), NONE);
            }
            x.depart(0);
        }
        due("CARRIED", how(x, 0), CARRIED);
        due("total(0, 4)", x.total(0, 4), NONE);
        for (int edge : EDGES) {
            due("total(" + edge + ", 0)", x.total(edge, 0), NONE);
            due("total(0, " + edge + ")", x.total(0, edge), NONE);
        }
    }

    private static void keptMoney() {
        FerryTerminal x = opened(1, 100);
        x.book(0, 21, 0, 0);
        due("kept()", x.kept(), 563);
        x.book(0, 20, 0, 0);
        due("kept()", x.kept(), 1123);
        due("a refused one pays nothing", x.book(0, 19, 0, 0), NONE);
        due("kept()", x.kept(), 1123);
        x.depart(0);
        due("half of each is paid back", x.kept(), 1123 - 281 - 280);
    }

    // ---- promise 21

    /** Tickets 0 and 1 ABOARD (cabins 0 and 2), 2 LEFT, 3 BOOKED, 4 ABOARD in lane 1, 5 HERE. */
    private static FerryTerminal audited() {
        FerryTerminal x = new FerryTerminal();
        x.ship(2, 2, 100, false);
        x.ship(1, 1, 100, false);
        x.cabin(0, 4);
        x.cabin(1, 4);
        x.cabin(0, 2);
        x.cabin(0, 1);
        x.sailing(0, 1000, 0);
        x.open(0);
        come(x, 0, 32, 2, 2, 1);
        come(x, 0, 68, 2, 1, 1);
        come(x, 0, 100, 2, 0, 1);
        x.book(0, 20, 0, 0);
        come(x, 0, 60, 2, 0, 1);
        x.settle(1);
        x.settle(500);
        x.off(2);
        x.settle(500);
        come(x, 0, 20, 0, 2, 5);
        return x;
    }

    private static void auditAgrees() {
        FerryTerminal x = audited();
        due("what 0", x.audit(0, 0, 0), NONE);
        due("what 0, no such ticket", x.audit(99, 0, -1), NONE);
        due("what 0, no such ticket", x.audit(-1, 0, 5), NONE);
        for (int ticket = 0; ticket < 6; ticket++) {
            for (int what = 4; what <= 11; what++) {
                due("mask 0: " + ticket + ", " + what, x.audit(ticket, what, 0), NONE);
            }
        }
        due("nothing has changed", x.audit(0, 0, 0), NONE);
    }

    private static void auditOfHow() {
        FerryTerminal x = audited();
        due("ABOARD 0", how(x, 0), ABOARD);
        due("ABOARD 1", how(x, 1), ABOARD);
        due("0 to CHECKED", x.audit(0, 4, 1), 0);
        due("1 to CARRIED", x.audit(1, 4, 5), 1);
        due("5 HERE to CHECKED", x.audit(5, 4, 3), NONE);
        due("5 HERE to LEFT", x.audit(5, 4, 5), NONE);
        due("5 HERE to BOOKED", x.audit(5, 4, 1), 5);
        due("5 HERE to CARRIED", x.audit(5, 4, 7), NONE);
        due("5 HERE to ABOARD", x.audit(5, 4, 2), 5);
        due("5 HERE to PAID BACK", x.audit(5, 4, 4), 5);
        due("5 HERE to GONE WITHOUT", x.audit(5, 4, 6), 5);
        due("5 HERE to 9", x.audit(5, 4, 8), 5);
        due("5 HERE to less than 0", x.audit(5, 4, Integer.MIN_VALUE), 5);
        due("3 BOOKED to HERE", x.audit(3, 4, 1), 3);
        due("3 BOOKED to 8", x.audit(3, 4, 8), 3);
    }

    private static void auditOfPlaces() {
        FerryTerminal x = audited();
        stands(x, 0, 0, 0, 0);
        stands(x, 1, 0, 0, 32);
        due("LEFT, then off: 2 stands nowhere or in lane 1", how(x, 2), ABOARD);
        stands(x, 2, 0, 1, 0);
        due("4 is LEFT", how(x, 4), LEFT);
        due("0 on deck 1", x.audit(0, 6, 1), NONE);
        due("0 on deck 2", x.audit(0, 6, 2), 0);
        due("0 on no deck", x.audit(0, 6, -1), 0);
        due("0 in lane 1, over 2", x.audit(0, 7, 1), 0);
        due("2 in lane 0, over 0", x.audit(2, 7, 1), 0);
        due("0 in lane 2", x.audit(0, 7, 2), 0);
        due("0 in lane -1", x.audit(0, 7, -1), 0);
        due("0 a place back, over 1", x.audit(0, 8, 1), 0);
        due("1 to place 0, over 0", x.audit(1, 8, 32), 0);
        due("1 to place 33, out of the lane", x.audit(1, 8, 1), 1);
        due("1 far off", x.audit(1, 8, Integer.MAX_VALUE), 1);
        due("1 at a place below 0, over 0", x.audit(1, 8, -1), 0);
        due("5 has a deck", x.audit(5, 6, -1), 5);
        due("5 has a lane", x.audit(5, 7, -1), 5);
        due("5 has a place", x.audit(5, 8, -1), 5);
        FerryTerminal y = opened(1, 100);
        come(y, 0, 60, 0, 0, 1);
        y.settle(500);
        due("at 40, the last place for it", y.audit(0, 8, 40), NONE);
        due("at 41", y.audit(0, 8, 41), 0);
        FerryTerminal z = new FerryTerminal();
        z.ship(2, 1, 100, false);
        z.sailing(0, 1000, 0);
        z.open(0);
        come(z, 0, 100, 0, 0, 0);
        come(z, 0, 100, 0, 0, 0);
        z.settle(500);
        stands(z, 1, 1, 0, 0);
        due("above each other, came at 0", z.audit(0, 0, 0), NONE);
        due("0 over 1", z.audit(0, 6, 1), 0);
        due("1 over 0", z.audit(1, 6, 1), 0);
    }

    private static void auditOfCabins() {
        FerryTerminal x = audited();
        due("cabin of 0", x.ticketOf(0, 9), 0);
        due("cabin of 1", x.ticketOf(1, 9), 2);
        due("0 in 2, as 1", x.audit(0, 9, 2), 0);
        due("1 in 0, as 0", x.audit(1, 9, 2), 0);
        due("1 in 3", x.audit(1, 9, 1), NONE);
        due("0 in 1 of another ship", x.audit(0, 9, 1), 0);
        due("0 in 3, beds too few", x.audit(0, 9, 3), 0);
        due("0 in 4", x.audit(0, 9, 4), 0);
        due("0 in none", x.audit(0, 9, -1), NONE);
        due("0 in -2", x.audit(0, 9, -2), 0);
        due("2 WISHES none", x.audit(2, 9, ~3), 2);
        due("5 isn't ABOARD", x.audit(5, 9, ~3), 5);
        x.settle(500);
        x.depart(0);
        due("CARRIED", how(x, 5), CARRIED);
        due("CARRIED", how(x, 1), CARRIED);
        due("CARRIED, 0 in 2, as 1", x.audit(0, 9, 2), 0);
        due("CARRIED, 1 in 3", x.audit(1, 9, 1), NONE);
        x.sailing(0, 2000, 0);
        x.open(1);
        int next = come(x, 1, 20, 0, 4, 1);
        x.settle(500);
        due("another sailing has it too", x.ticketOf(next, 9), 0);
        due("that agrees", x.audit(0, 0, 0), NONE);
    }

    private static void auditOfMinutes() {
        FerryTerminal x = audited();
        due("0 came at NONE", x.audit(0, 5, ~1), 0);
        due("0 came at 200000", x.audit(0, 5, 1 ^ 200000), NONE);
        due("0 came at 200001", x.audit(0, 5, 1 ^ 200001), 0);
        due("0 came at -2", x.audit(0, 5, 1 ^ -2), 0);
        due("5 came at NONE", x.audit(5, 5, ~5), 5);
        due("LEFT came at NONE", x.audit(4, 5, ~1), 4);
        due("3 came at 0", x.audit(3, 5, -1), 3);
        x.settle(1);
        due("CHECKED came at NONE", x.audit(5, 5, ~5), 5);
        x.settle(500);
        x.depart(0);
        due("CARRIED came at NONE", x.audit(0, 5, ~1), 0);
        due("PAID BACK came at NONE", x.audit(4, 5, ~1), NONE);
        due("PAID BACK came at 7", x.audit(4, 5, 6), NONE);
        due("GONE WITHOUT came at 0", x.audit(3, 5, -1), 3);
    }

    private static void auditOfMoney() {
        FerryTerminal x = audited();
        int paid = x.ticketOf(5, 10);
        due("5 was paid back 1", x.audit(5, 11, 1), 5);
        due("5 paid 500", x.audit(5, 10, paid ^ 500), NONE);
        due("5 paid 499", x.audit(5, 10, paid ^ 499), 5);
        due("5 paid less than 0", x.audit(5, 10, Integer.MIN_VALUE), 5);
        x.settle(500);
        x.depart(0);
        due("PAID BACK", how(x, 4), PAID_BACK);
        due("GONE WITHOUT", how(x, 3), GONE_WITHOUT);
        due("4 was paid back another sum", x.audit(4, 11, 4), 4);
        due("4 paid another sum", x.audit(4, 10, 1), 4);
        due("3 was paid back another sum", x.audit(3, 11, 1), 3);
        due("3 paid one more, the half cut is the same", x.audit(3, 10, 1), NONE);
        due("3 paid two more", x.audit(3, 10, 2), 3);
        due("CARRIED was paid back 1", x.audit(0, 11, 1), 0);
    }

    private static void auditRefused() {
        FerryTerminal x = audited();
        for (int what = 4; what <= 11; what++) {
            due("ticket 6, what " + what, x.audit(6, what, 0), -2);
            for (int edge : EDGES) {
                due("ticket " + edge + ", what " + what, x.audit(edge, what, 0), -2);
            }
        }
        for (int what : new int[] {1, 2, 3, 12, 13, -1, -4, Integer.MIN_VALUE, Integer.MAX_VALUE}) {
            due("what " + what, x.audit(0, what, 0), -2);
        }
    }
}
