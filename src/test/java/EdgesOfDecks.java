/** The boundary cases of places, heights, half decks and the deck rule: Terms 2, Promises 15 and 16. */
final class EdgesOfDecks extends Edges {
    static void run() {
        placesFromTheBowOn();
        heightsOfDecks();
        heightsOfDecksAboard();
        lanesUnderDeck1();
        high2OnlyWhileNothingIsOnDeck1();
        high2StaysOutWhileSomethingIsOnDeck1();
        deck1OnlyWhileNoHigh2StandsUnder();
        deck1StaysClosedWhileHigh2StandsUnder();
        aGapIsAsLongAsCanBe();
        ruleLanesWhereItMayStand();
        ruleGapOfItsLengthAtLeast();
        ruleLeastFreePlaces();
        ruleLowestDeckThenLane();
        ruleFirstGapFromTheBow();
        atTellsTheTicket();
        atNothingOrNoSuchPlace();
        laneFreePlaces();
        laneLongestGap();
        laneMayStand();
        laneNoneSuch();
    }

    /** A ship of so many decks and lanes, 100 long, and its OPEN sailing 0 at minute 1000. */
    private static Terminal ship(int decks, int lanes, boolean half) {
        Terminal x = new Terminal();
        due(0, x.ship(decks, lanes, 100, half));
        due(0, x.sailing(0, 1000, 0));
        due(1, x.open(0));
        return x;
    }

    /** Whether low ones, HEIGHT 1 and HEIGHT 2 may stand in a lane. */
    private static void mayStand(Terminal x, int deck, int lane, int low, int middle, int high) {
        due(low, x.lane(0, deck, lane, 2));
        due(middle, x.lane(0, deck, lane, 3));
        due(high, x.lane(0, deck, lane, 4));
    }

    private static void placesFromTheBowOn() {
        sentence("Terms 2", "PLACES of a vehicle on a ship: deck, lane, place p: it covers p to p + length - 1 "
                + "of the LENGTH, from the bow on.");
        Terminal x = ship(1, 1, false);
        int first = come(x, 0, 20);
        int second = come(x, 0, 30);
        int third = come(x, 0, 50);
        due(9, x.settle(500));
        stands(x, first, 0, 0, 0);
        stands(x, second, 0, 0, 20);
        stands(x, third, 0, 0, 50);
        int[] ends = {0, 19, 20, 49, 50, 99};
        for (int i = 0; i < ends.length; i++) {
            due(i / 2, x.at(0, 0, 0, ends[i]));
        }
        due(NONE, x.at(0, 0, 0, -1));
        due(NONE, x.at(0, 0, 0, 100));
    }

    private static void heightsOfDecks() {
        sentence("Terms 2", "HEIGHT 2 may stand on deck 0 alone, 1 on decks 0 and 1, 0 on all.");
        for (int decks = 1; decks <= 4; decks++) {
            Terminal x = ship(decks, 2, false);
            for (int deck = 0; deck < decks; deck++) {
                mayStand(x, deck, 1, 1, deck <= 1 ? 1 : 0, deck == 0 ? 1 : 0);
            }
        }
    }

    private static void heightsOfDecksAboard() {
        sentence("Terms 2", "HEIGHT 2 may stand on deck 0 alone, 1 on decks 0 and 1, 0 on all.");
        int[] room = {4, 2, 1};
        for (int height = 0; height <= 2; height++) {
            Terminal x = ship(4, 1, false);
            for (int i = 0; i < 5; i++) {
                come(x, 0, 100, height, 0, 1);
            }
            x.settle(500);
            for (int i = 0; i < 5; i++) {
                how(x, i, i < room[height] ? ABOARD : LEFT);
                due(i < room[height] ? i : NONE, x.ticketOf(i, DECK));
            }
        }
    }

    private static void lanesUnderDeck1() {
        sentence("Terms 2", "Of a HALF ship lanes 0 and 1 of deck 0 are UNDER deck 1:");
        Terminal x = ship(2, 4, true);
        for (int lane = 0; lane < 4; lane++) {
            due(lane, come(x, 0, 100, 2, 0, 1));
        }
        due(4 + 2 * 4, x.settle(500));
        for (int lane = 0; lane < 4; lane++) {
            stands(x, lane, 0, lane, 0);
        }
        mayStand(x, 1, 0, 0, 0, 0);
        due(1, x.off(0));
        mayStand(x, 1, 0, 0, 0, 0);
        due(1, x.off(1));
        mayStand(x, 1, 0, 1, 1, 0);
        mayStand(x, 1, 3, 1, 1, 0);
        due(2, x.shipOf(0, 5));
        Terminal other = ship(2, 4, true);
        come(other, 0, 100, 2, 0, 1);
        come(other, 0, 100, 2, 0, 1);
        other.settle(500);
        due(1, other.off(1));
        mayStand(other, 1, 0, 0, 0, 0);
        due(1, other.off(0));
        mayStand(other, 1, 0, 1, 1, 0);
    }

    /**
     * A HALF ship of 3 decks and 3 lanes; deck 0 is filled and lane 0 of deck 1 holds a low one, lane 1 too,
     * then all of deck 0 is brought off.
     */
    private static Terminal somethingOnDeck1() {
        Terminal x = ship(3, 3, true);
        for (int i = 0; i < 5; i++) {
            come(x, 0, 100, i < 3 ? 1 : 0, 0, 1);
        }
        due(5 + 2 * 5, x.settle(500));
        stands(x, 3, 1, 0, 0);
        stands(x, 4, 1, 1, 0);
        for (int i = 0; i < 3; i++) {
            due(1, x.off(i));
        }
        return x;
    }

    private static void high2OnlyWhileNothingIsOnDeck1() {
        sentence("Terms 2", "HEIGHT 2 may stand there only while nothing is on deck 1,");
        Terminal x = somethingOnDeck1();
        mayStand(x, 0, 0, 1, 1, 0);
        mayStand(x, 0, 1, 1, 1, 0);
        mayStand(x, 0, 2, 1, 1, 1);
        due(1, x.off(3));
        mayStand(x, 0, 0, 1, 1, 0);
        due(1, x.off(4));
        mayStand(x, 0, 0, 1, 1, 1);
        mayStand(x, 0, 1, 1, 1, 1);
        due(0, x.shipOf(0, 5));
        Terminal lane0 = somethingOnDeck1();
        due(1, lane0.off(4));
        due(1, lane0.shipOf(0, 5));
        mayStand(lane0, 0, 0, 1, 1, 0);
        mayStand(lane0, 0, 1, 1, 1, 0);
        lastLaneOfDeck1();
        deck2DoesNotCount();
    }

    private static void lastLaneOfDeck1() {
        Terminal x = ship(2, 6, true);
        for (int i = 0; i < 12; i++) {
            come(x, 0, 100);
        }
        x.settle(500);
        stands(x, 11, 1, 5, 0);
        for (int i = 0; i < 11; i++) {
            due(1, x.off(i));
        }
        due(1, x.shipOf(0, 5));
        mayStand(x, 0, 0, 1, 1, 0);
        mayStand(x, 0, 1, 1, 1, 0);
        mayStand(x, 0, 2, 1, 1, 1);
        due(1, x.off(11));
        mayStand(x, 0, 1, 1, 1, 1);
    }

    private static void deck2DoesNotCount() {
        Terminal x = ship(3, 2, true);
        for (int i = 0; i < 5; i++) {
            come(x, 0, 100);
        }
        x.settle(500);
        stands(x, 4, 2, 0, 0);
        for (int i = 0; i < 4; i++) {
            due(1, x.off(i));
        }
        due(1, x.shipOf(0, 5));
        mayStand(x, 0, 0, 1, 1, 1);
        mayStand(x, 0, 1, 1, 1, 1);
    }

    private static void high2StaysOutWhileSomethingIsOnDeck1() {
        sentence("Terms 2", "HEIGHT 2 may stand there only while nothing is on deck 1,");
        Terminal x = somethingOnDeck1();
        int beside = come(x, 0, 100, 2, 0, 1);
        due(3, x.settle(3));
        stands(x, beside, 0, 2, 0);
        int none = come(x, 0, 20, 2, 0, 1);
        due(2, x.settle(2));
        how(x, none, LEFT);
        Terminal other = somethingOnDeck1();
        due(1, other.off(3));
        due(1, other.off(4));
        int high = come(other, 0, 100, 2, 0, 1);
        due(2, other.settle(2));
        stands(other, high, 0, 0, 0);
        Terminal plain = ship(2, 2, false);
        for (int i = 0; i < 3; i++) {
            come(plain, 0, 100);
        }
        plain.settle(500);
        stands(plain, 2, 1, 0, 0);
        due(1, plain.off(0));
        int notHalf = come(plain, 0, 100, 2, 0, 1);
        due(2, plain.settle(2));
        stands(plain, notHalf, 0, 0, 0);
    }

    private static void deck1OnlyWhileNoHigh2StandsUnder() {
        sentence("Terms 2", "and on deck 1 something may be put only while no HEIGHT 2 stands UNDER it.");
        Terminal x = ship(4, 3, true);
        for (int lane = 0; lane < 3; lane++) {
            mayStand(x, 1, lane, 1, 1, 0);
        }
        int middle = come(x, 0, 60, 1, 0, 1);
        x.settle(500);
        stands(x, middle, 0, 0, 0);
        mayStand(x, 1, 0, 1, 1, 0);
        int behind = come(x, 0, 40, 2, 0, 1);
        x.settle(500);
        stands(x, behind, 0, 0, 60);
        for (int lane = 0; lane < 3; lane++) {
            mayStand(x, 0, lane, 1, 1, 1);
            mayStand(x, 1, lane, 0, 0, 0);
            mayStand(x, 2, lane, 1, 0, 0);
            mayStand(x, 3, lane, 1, 0, 0);
        }
        due(1, x.off(behind));
        mayStand(x, 1, 2, 1, 1, 0);
        Terminal plain = ship(4, 3, false);
        come(plain, 0, 40, 2, 0, 1);
        plain.settle(500);
        mayStand(plain, 1, 0, 1, 1, 0);
    }

    private static void deck1StaysClosedWhileHigh2StandsUnder() {
        sentence("Terms 2", "and on deck 1 something may be put only while no HEIGHT 2 stands UNDER it.");
        Terminal x = ship(3, 2, true);
        come(x, 0, 100, 2, 0, 1);
        int middle = come(x, 0, 100, 1, 0, 1);
        int shut = come(x, 0, 100, 1, 0, 1);
        int low = come(x, 0, 100, 0, 0, 1);
        due(4 + 2 + 2 + 1 + 2, x.settle(500));
        stands(x, middle, 0, 1, 0);
        how(x, shut, LEFT);
        stands(x, low, 2, 0, 0);
        Terminal y = ship(2, 3, true);
        for (int i = 0; i < 3; i++) {
            come(y, 0, 100, 1, 0, 1);
        }
        y.settle(500);
        due(1, y.off(2));
        int beside = come(y, 0, 100, 2, 0, 1);
        due(1 + 2 + 2, y.settle(500));
        stands(y, beside, 0, 2, 0);
        stands(y, 2, 1, 0, 0);
    }

    private static void aGapIsAsLongAsCanBe() {
        sentence("Terms 2", "A GAP is a row of places of a lane that nothing covers, as long as can be.");
        Terminal x = ship(1, 1, false);
        due(100, x.lane(0, 0, 0, 1));
        come(x, 0, 20);
        x.settle(500);
        due(80, x.lane(0, 0, 0, 1));
        come(x, 0, 59);
        x.settle(500);
        due(21, x.lane(0, 0, 0, 1));
        come(x, 0, 20);
        x.settle(500);
        due(1, x.lane(0, 0, 0, 1));
        due(1, x.off(2));
        due(21, x.lane(0, 0, 0, 1));
        int fills = x.book(0, 21, 2, 0);
        x.arrive(fills, 1);
        x.settle(3);
        stands(x, fills, 0, 0, 79);
        due(0, x.lane(0, 0, 0, 1));
    }

    private static void ruleLanesWhereItMayStand() {
        sentence("Terms 2", "The DECK RULE: of all lanes where it may stand now");
        Terminal x = ship(4, 1, false);
        int[] heights = {1, 1, 0, 0};
        for (int height : heights) {
            come(x, 0, 60, height, 0, 1);
        }
        x.settle(500);
        for (int i = 0; i < 4; i++) {
            stands(x, i, i, 0, 0);
        }
        due(1, x.off(0));
        due(1, x.off(1));
        int high = come(x, 0, 30, 2, 0, 1);
        due(1 + 2 + 4, x.settle(500));
        stands(x, high, 0, 0, 0);
        stands(x, 0, 0, 0, 30);
        stands(x, 1, 1, 0, 0);
        int low = come(x, 0, 30, 0, 0, 1);
        int middle = come(x, 0, 40, 1, 0, 1);
        x.settle(500);
        stands(x, middle, 1, 0, 60);
        stands(x, low, 2, 0, 60);
    }

    private static void ruleGapOfItsLengthAtLeast() {
        sentence("Terms 2", "and that have a GAP of its length at least");
        Terminal x = ship(1, 2, false);
        come(x, 0, 60);
        come(x, 0, 50);
        x.settle(500);
        stands(x, 1, 0, 1, 0);
        int exact = come(x, 0, 40);
        int one = come(x, 0, 51);
        int fits = come(x, 0, 50);
        x.settle(500);
        stands(x, exact, 0, 0, 60);
        how(x, one, LEFT);
        stands(x, one, NONE, NONE, NONE);
        stands(x, fits, 0, 1, 50);
        int shortest = come(x, 0, 20);
        x.settle(500);
        how(x, shortest, LEFT);
        Terminal whole = ship(1, 1, false);
        due(NONE, whole.book(0, 101, 0, 0));
        int all = come(whole, 0, 100);
        whole.settle(500);
        stands(whole, all, 0, 0, 0);
    }

    private static void ruleLeastFreePlaces() {
        sentence("Terms 2", "that with the least free places (all that nothing covers),");
        Terminal x = ship(2, 2, false);
        int[] lengths = {60, 61, 62, 63};
        for (int length : lengths) {
            come(x, 0, length);
        }
        x.settle(500);
        for (int i = 0; i < 4; i++) {
            stands(x, i, i / 2, i % 2, 0);
        }
        int[] next = {37, 20, 38, 39, 40};
        for (int length : next) {
            come(x, 0, length);
        }
        x.settle(500);
        stands(x, 4, 1, 1, 63);
        stands(x, 5, 1, 0, 62);
        stands(x, 6, 0, 1, 61);
        stands(x, 7, 0, 0, 60);
        how(x, 8, LEFT);
    }

    private static void ruleLowestDeckThenLane() {
        sentence("Terms 2", "of several the lowest deck, then lane;");
        Terminal x = ship(3, 3, false);
        for (int i = 0; i < 9; i++) {
            come(x, 0, 80);
        }
        x.settle(500);
        for (int i = 0; i < 9; i++) {
            stands(x, i, i / 3, i % 3, 0);
        }
        for (int i = 0; i < 9; i++) {
            due(9 + i, come(x, 0, 20));
        }
        x.settle(500);
        for (int i = 0; i < 9; i++) {
            stands(x, 9 + i, i / 3, i % 3, 80);
        }
    }

    private static void ruleFirstGapFromTheBow() {
        sentence("Terms 2", "there the first such GAP from the bow, at its first place.");
        Terminal x = ship(1, 1, false);
        come(x, 0, 30);
        come(x, 0, 30);
        come(x, 0, 30);
        x.settle(500);
        stands(x, 0, 0, 0, 0);
        stands(x, 1, 0, 0, 30);
        stands(x, 2, 0, 0, 60);
        due(1, x.off(2));
        due(1, x.off(1));
        int first = come(x, 0, 20, 2, 0, 1);
        x.settle(500);
        stands(x, first, 0, 0, 30);
        stands(x, 1, 0, 0, 50);
        how(x, 2, LEFT);
        due(1, x.off(1));
        due(1, x.off(first));
        due(1, x.off(0));
        x.settle(2);
        stands(x, first, 0, 0, 0);
    }

    // ---- promise 15

    private static void atTellsTheTicket() {
        sentence("Promise 15", "What covers a place of a lane: the ticket;");
        Terminal x = ship(4, 6, false);
        for (int i = 0; i < 24; i++) {
            due(i, come(x, 0, 80 + i % 20, 0, 0, 1));
        }
        x.settle(500);
        for (int i = 0; i < 24; i++) {
            int last = 79 + i % 20;
            due(i, x.at(0, i / 6, i % 6, 0));
            due(i, x.at(0, i / 6, i % 6, last));
            due(NONE, x.at(0, i / 6, i % 6, last + 1));
        }
    }

    private static void atNothingOrNoSuchPlace() {
        sentence("Promise 15", "NONE: nothing, or no such place.");
        Terminal x = ship(2, 2, false);
        due(NONE, x.at(0, 0, 0, 0));
        for (int i = 0; i < 4; i++) {
            come(x, 0, 100);
        }
        x.settle(500);
        due(3, x.at(0, 1, 1, 99));
        for (int place : outside(0, 99)) {
            due(NONE, x.at(0, 1, 1, place));
        }
        for (int number : noneSuch(2)) {
            due(NONE, x.at(0, number, 1, 99));
            due(NONE, x.at(0, 1, number, 0));
        }
        for (int ship : noneSuch(1)) {
            due(NONE, x.at(ship, 1, 1, 0));
        }
        due(1, x.off(3));
        due(NONE, x.at(0, 1, 1, 0));
        due(2, x.at(0, 1, 0, 0));
        due(2, x.settle(500));
        due(3, x.at(0, 1, 1, 0));
        due(4, x.depart(0));
        due(NONE, x.at(0, 0, 0, 0));
        due(NONE, x.at(0, 1, 1, 99));
    }

    // ---- promise 16

    private static void laneFreePlaces() {
        sentence("Promise 16", "Free places of a lane (what 0),");
        Terminal x = ship(2, 2, false);
        for (int i = 0; i < 4; i++) {
            due(100, x.lane(0, i / 2, i % 2, 0));
        }
        int[] lengths = {100, 99, 80, 20};
        for (int length : lengths) {
            come(x, 0, length);
        }
        x.settle(500);
        due(0, x.lane(0, 0, 0, 0));
        due(1, x.lane(0, 0, 1, 0));
        due(0, x.lane(0, 1, 0, 0));
        due(100, x.lane(0, 1, 1, 0));
        due(1, x.off(3));
        due(20, x.lane(0, 1, 0, 0));
        due(2, x.settle(500));
        due(4, x.depart(0));
        for (int i = 0; i < 4; i++) {
            due(100, x.lane(0, i / 2, i % 2, 0));
        }
    }

    private static void laneLongestGap() {
        sentence("Promise 16", "its longest GAP (1),");
        Terminal x = ship(2, 2, false);
        due(100, x.lane(0, 1, 1, 1));
        int[] lengths = {100, 99, 80, 20};
        for (int length : lengths) {
            come(x, 0, length);
        }
        x.settle(500);
        due(0, x.lane(0, 0, 0, 1));
        due(1, x.lane(0, 0, 1, 1));
        due(0, x.lane(0, 1, 0, 1));
        due(100, x.lane(0, 1, 1, 1));
        due(1, x.off(3));
        due(20, x.lane(0, 1, 0, 1));
    }

    private static void laneMayStand() {
        sentence("Promise 16", "whether a HEIGHT (2 + HEIGHT) may stand there now (1, 0).");
        Terminal x = ship(4, 2, true);
        int[][] due = {{1, 1, 1}, {1, 1, 0}, {1, 0, 0}, {1, 0, 0}};
        for (int deck = 0; deck < 4; deck++) {
            mayStand(x, deck, 0, due[deck][0], due[deck][1], due[deck][2]);
        }
        int high = come(x, 0, 100, 2, 0, 1);
        x.settle(500);
        stands(x, high, 0, 0, 0);
        mayStand(x, 0, 0, 1, 1, 1);
        mayStand(x, 1, 0, 0, 0, 0);
        due(1, x.depart(0));
        mayStand(x, 1, 0, 1, 1, 0);
    }

    private static void laneNoneSuch() {
        sentence("Promise 16", "NONE where there is none such.");
        Terminal x = ship(3, 2, true);
        due(100, x.lane(0, 2, 1, 0));
        for (int what : outside(0, 4)) {
            due(NONE, x.lane(0, 0, 0, what));
        }
        for (int what = 0; what <= 4; what++) {
            for (int ship : noneSuch(1)) {
                due(NONE, x.lane(ship, 0, 0, what));
            }
            for (int deck : noneSuch(3)) {
                due(NONE, x.lane(0, deck, 0, what));
            }
            for (int lane : noneSuch(2)) {
                due(NONE, x.lane(0, 1, lane, what));
            }
        }
        due(NONE, new Terminal().lane(0, 0, 0, 0));
    }
}
