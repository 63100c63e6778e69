/** The boundary cases of audit(): Promise 21. */
final class EdgesOfAudit extends Edges {
    /** Tickets of everyHow(); 0 to 3 are of the DEPARTED sailing 0, 4 is of another ship, the others of sailing 1. */
    private static final int CARRIED_IN_0 = 0;
    private static final int CARRIED_IN_1 = 1;
    private static final int PAID_ALL = 2;
    private static final int NEVER_CAME = 3;
    private static final int ELSEWHERE = 4;
    private static final int FIRST = 5;
    private static final int BESIDE = 6;
    private static final int NO_ROOM = 7;
    private static final int BEHIND = 8;
    private static final int STILL_BOOKED = 9;
    private static final int WAITS = 10;
    private static final int COMES = 11;
    private static final int TICKETS = 12;

    private static final int[] CAME = {CARRIED_IN_0, CARRIED_IN_1, ELSEWHERE, FIRST, BESIDE, NO_ROOM, BEHIND,
        WAITS, COMES};

    static void run() {
        theFirstThatDoesNotAgree();
        numbers4To11();
        what0AltersNone();
        noneIfAllAgree();
        minus2NoSuchTicket();
        minus2NoSuchWhat();
        lookedAtAsAltered();
        howIs0To7();
        placeWithinTheShips();
        placeJustIfAboard();
        noOtherCoversItsPlaces();
        cabinOnlyIfAboardOrCarried();
        cabinOnlyIfWishing();
        cabinOfTheShip();
        cabinWithBedsEnough();
        noOtherHasTheCabin();
        cameIfHereToCarried();
        notCameIfBooked();
        paidBackAll();
        paidBackHalf();
        paidBackElse0();
        paid500AtLeast();
    }

    /**
     * Ship 0 has 2 decks of 2 lanes of 100 and cabins 0 (2 beds), 1 (4), 3 (6) and 4 (1); ship 1 has cabin 2
     * (6 beds). FIRST (60 long) and BEHIND it (40) stand in lane 0, BESIDE (100) in lane 1, all on deck 0.
     */
    private static Terminal everyHow() {
        Terminal x = new Terminal();
        x.ship(2, 2, 100, false);
        x.ship(1, 1, 100, false);
        x.cabin(0, 2);
        x.cabin(0, 4);
        x.cabin(1, 6);
        x.cabin(0, 6);
        x.cabin(0, 1);
        x.sailing(0, 1000, 0);
        x.sailing(0, 2000, 0);
        x.sailing(1, 1000, 0);
        x.open(0);
        x.open(2);
        come(x, 0, 100, 2, 2, 1);
        come(x, 0, 100, 2, 3, 2);
        come(x, 0, 100, 2, 2, 3);
        x.book(0, 21, 0, 2);
        x.settle(500);
        x.depart(0);
        come(x, 2, 100, 2, 6, 4);
        x.settle(500);
        x.open(1);
        come(x, 1, 60, 2, 2, 5);
        come(x, 1, 100, 2, 0, 6);
        come(x, 1, 100, 2, 2, 7);
        come(x, 1, 40, 2, 1, 8);
        x.settle(500);
        x.book(1, 23, 0, 2);
        come(x, 1, 20, 0, 2, 9);
        x.settle(1);
        come(x, 1, 20, 0, 2, 10);
        int[] hows = {CARRIED, CARRIED, PAID_BACK, GONE_WITHOUT, ABOARD, ABOARD, ABOARD, LEFT, ABOARD, BOOKED,
            CHECKED, HERE};
        int[] cabins = {0, 1, NONE, NONE, 2, 0, NONE, NONE, 1, NONE, NONE, NONE};
        for (int i = 0; i < TICKETS; i++) {
            how(x, i, hows[i]);
            due(cabins[i], x.ticketOf(i, CABIN));
        }
        stands(x, FIRST, 0, 0, 0);
        stands(x, BEHIND, 0, 0, 60);
        stands(x, BESIDE, 0, 1, 0);
        return x;
    }

    /** What audit() answers when a number of a ticket is altered to this one. */
    private static void altered(Terminal x, int ticket, int what, int to, int want) {
        due(want, x.audit(ticket, what, x.ticketOf(ticket, what) ^ to));
    }

    private static void theFirstThatDoesNotAgree() {
        sentence("Promise 21", "The first ticket whose numbers don't agree,");
        Terminal x = everyHow();
        for (int i = 0; i < TICKETS; i++) {
            altered(x, i, HOW, 8, i);
            altered(x, i, PAID, 0, i);
        }
        altered(x, BEHIND, PLACE, 59, FIRST);
        altered(x, FIRST, PLACE, 1, FIRST);
        altered(x, BEHIND, LANE, 1, BESIDE);
        altered(x, BEHIND, CABIN, 0, FIRST);
        altered(x, CARRIED_IN_1, CABIN, 0, CARRIED_IN_0);
    }

    private static void numbers4To11() {
        sentence("Promise 21", "when number what (4 to 11 of ticketOf()) of one ticket is altered "
                + "(exclusive or mask;");
        Terminal x = everyHow();
        int high = Integer.MIN_VALUE;
        for (int what = 4; what <= 11; what++) {
            for (int i = 0; i < TICKETS; i++) {
                due(NONE, x.audit(i, what, 0));
            }
            due(BEHIND, x.audit(BEHIND, what, high));
            due(STILL_BOOKED, x.audit(STILL_BOOKED, what, high));
        }
        due(NONE, x.audit(COMES, HOW, HERE ^ LEFT));
        due(COMES, x.audit(COMES, HOW, HERE ^ BOOKED));
        due(NONE, x.audit(COMES, MINUTE, 10 ^ 200000));
        due(COMES, x.audit(COMES, MINUTE, 10 ^ 200001));
        due(NONE, x.audit(0, 0, 0));
    }

    private static void what0AltersNone() {
        sentence("Promise 21", "what 0: none is):");
        Terminal x = everyHow();
        for (int i = 0; i < TICKETS; i++) {
            due(NONE, x.audit(i, 0, 0));
            due(NONE, x.audit(i, 0, -1));
            due(NONE, x.audit(i, 0, Integer.MIN_VALUE));
        }
    }

    private static void noneIfAllAgree() {
        sentence("Promise 21", "NONE: all agree.");
        Terminal x = new Terminal();
        due(NONE, x.audit(0, 0, 0));
        x.ship(2, 2, 50, true);
        x.cabin(0, 2);
        x.sailing(0, 1000, 0);
        x.sailing(0, 2000, 0);
        x.open(0);
        for (int i = 0; i < 6; i++) {
            come(x, 0, 50, i % 2, i % 3, 200000);
        }
        x.book(0, 50, 2, 6);
        for (int turn = 0; turn < 40; turn++) {
            due(NONE, x.audit(0, 0, 0));
            x.settle(1);
        }
        x.recall(0, 0);
        for (int turn = 0; turn < 20; turn++) {
            due(NONE, x.audit(0, 0, 0));
            x.settle(1);
        }
        state(x, 0, RECALLED);
        x.open(1);
        x.settle(500);
        due(NONE, x.audit(0, 0, 0));
        x.depart(1);
        due(NONE, x.audit(0, 0, 0));
    }

    private static void minus2NoSuchTicket() {
        sentence("Promise 21", "-2: no such ticket (what 0 asks for none),");
        Terminal x = everyHow();
        for (int ticket : noneSuch(TICKETS)) {
            for (int what = 4; what <= 11; what++) {
                due(-2, x.audit(ticket, what, 0));
                due(-2, x.audit(ticket, what, -1));
            }
            due(NONE, x.audit(ticket, 0, 0));
            due(NONE, x.audit(ticket, 0, -1));
        }
        Terminal none = new Terminal();
        due(-2, none.audit(0, 4, 0));
        due(-2, none.audit(-1, 11, 0));
        due(NONE, none.audit(0, 0, 1));
        due(NONE, none.audit(-1, 0, 1));
    }

    private static void minus2NoSuchWhat() {
        sentence("Promise 21", "what.");
        Terminal x = everyHow();
        int[] noNumbers = {1, 2, 3, 12, 13, -1, -4, 16, 256, Integer.MIN_VALUE, Integer.MAX_VALUE};
        for (int what : noNumbers) {
            due(-2, x.audit(0, what, 0));
            due(-2, x.audit(TICKETS - 1, what, 1));
            due(-2, x.audit(TICKETS, what, 0));
            due(-2, x.audit(-1, what, 0));
        }
        due(NONE, x.audit(0, 0, 0));
    }

    private static void lookedAtAsAltered() {
        sentence("Promise 21", "All is looked at with that number as altered.");
        Terminal x = everyHow();
        Terminal before = x.again();
        altered(x, FIRST, HOW, CHECKED, FIRST);
        altered(x, FIRST, HOW, CARRIED, FIRST);
        altered(x, COMES, HOW, CHECKED, NONE);
        altered(x, COMES, HOW, CARRIED, NONE);
        altered(x, COMES, HOW, ABOARD, COMES);
        altered(x, NO_ROOM, HOW, HERE, NONE);
        altered(x, NO_ROOM, HOW, PAID_BACK, NO_ROOM);
        altered(x, STILL_BOOKED, HOW, GONE_WITHOUT, STILL_BOOKED);
        altered(x, PAID_ALL, HOW, LEFT, PAID_ALL);
        altered(x, NEVER_CAME, HOW, BOOKED, NEVER_CAME);
        altered(x, BEHIND, PLACE, 0, FIRST);
        altered(x, BEHIND, DECK, 1, NONE);
        altered(x, BEHIND, CABIN, 3, NONE);
        for (int ticket = 0; ticket < TICKETS; ticket++) {
            for (int what = 4; what <= 11; what++) {
                due(before.ticketOf(ticket, what), x.ticketOf(ticket, what));
            }
        }
        due(before.kept(), x.kept());
        due(NONE, x.audit(0, 0, 0));
    }

    private static void howIs0To7() {
        sentence("Promise 21", "They agree if: HOW it is is 0 to 7;");
        Terminal x = everyHow();
        for (int how : outside(0, 7)) {
            altered(x, STILL_BOOKED, HOW, how, STILL_BOOKED);
            altered(x, COMES, HOW, how, COMES);
            altered(x, CARRIED_IN_0, HOW, how, CARRIED_IN_0);
        }
        altered(x, STILL_BOOKED, HOW, BOOKED, NONE);
        altered(x, NEVER_CAME, HOW, GONE_WITHOUT, NONE);
    }

    /** One vehicle of 60 at deck 0, lane 0, place 0 of a ship of 3 decks of 4 lanes of 100. */
    private static Terminal oneAboard() {
        Terminal x = new Terminal();
        x.ship(3, 4, 100, true);
        x.sailing(0, 1000, 0);
        x.open(0);
        come(x, 0, 60, 2, 0, 1);
        x.settle(500);
        stands(x, 0, 0, 0, 0);
        return x;
    }

    private static void placeWithinTheShips() {
        sentence("Promise 21", "it has deck, lane and place within the ship's");
        Terminal x = oneAboard();
        for (int deck = 0; deck <= 2; deck++) {
            altered(x, 0, DECK, deck, NONE);
        }
        for (int lane = 0; lane <= 3; lane++) {
            altered(x, 0, LANE, lane, NONE);
        }
        for (int place : new int[] {0, 1, 39, 40}) {
            altered(x, 0, PLACE, place, NONE);
        }
        for (int deck : outside(0, 2)) {
            altered(x, 0, DECK, deck, 0);
        }
        for (int lane : outside(0, 3)) {
            altered(x, 0, LANE, lane, 0);
        }
        for (int place : outside(0, 40)) {
            altered(x, 0, PLACE, place, 0);
        }
        altered(x, 0, PLACE, 99, 0);
        altered(x, 0, PLACE, 100, 0);
    }

    private static void placeJustIfAboard() {
        sentence("Promise 21", "just if it's ABOARD (else NONE each),");
        Terminal x = everyHow();
        for (int what = DECK; what <= PLACE; what++) {
            for (int ticket = 0; ticket < TICKETS; ticket++) {
                boolean aboard = ticket == ELSEWHERE || ticket == FIRST || ticket == BESIDE || ticket == BEHIND;
                // From place NONE on BEHIND would cover places of FIRST, the lesser number.
                int wrong = ticket == BEHIND && what == PLACE ? FIRST : ticket;
                altered(x, ticket, what, NONE, aboard ? wrong : NONE);
                if (!aboard) {
                    altered(x, ticket, what, 0, ticket);
                    altered(x, ticket, what, -2, ticket);
                }
            }
        }
        altered(x, FIRST, HOW, LEFT, FIRST);
        altered(x, BESIDE, HOW, HERE, BESIDE);
    }

    private static void noOtherCoversItsPlaces() {
        sentence("Promise 21", "and then no other one ABOARD of its sailing covers one of its places;");
        Terminal x = opened(2, 100);
        int low = come(x, 0, 30);
        int high = come(x, 0, 30, 2, 0, 1);
        x.settle(500);
        stands(x, high, 0, 0, 0);
        stands(x, low, 0, 0, 30);
        for (int place = 0; place <= 70; place++) {
            altered(x, low, PLACE, place, place < 30 ? low : NONE);
            altered(x, high, PLACE, place, place == 0 || place >= 60 ? NONE : low);
        }
        altered(x, low, LANE, 1, NONE);
        altered(x, high, LANE, 1, NONE);
        altered(x, high, PLACE, -1, high);
        altered(x, low, PLACE, -1, low);
        Terminal decks = new Terminal();
        decks.ship(2, 1, 50, false);
        decks.ship(1, 1, 50, false);
        decks.sailing(0, 1000, 0);
        decks.sailing(1, 1000, 0);
        decks.open(0);
        decks.open(1);
        come(decks, 0, 50);
        come(decks, 0, 50);
        come(decks, 1, 50);
        decks.settle(500);
        due(NONE, decks.audit(0, 0, 0));
        stands(decks, 0, 0, 0, 0);
        stands(decks, 2, 0, 0, 0);
        altered(decks, 0, DECK, 1, 0);
        altered(decks, 1, DECK, 0, 0);
        altered(decks, 2, DECK, 1, 2);
    }

    private static void cabinOnlyIfAboardOrCarried() {
        sentence("Promise 21", "a cabin only if ABOARD or CARRIED");
        Terminal x = everyHow();
        for (int ticket : new int[] {PAID_ALL, NEVER_CAME, NO_ROOM, STILL_BOOKED, WAITS, COMES}) {
            due(1, x.ticketOf(ticket, 3) > 0 ? 1 : 0);
            altered(x, ticket, CABIN, 3, ticket);
            altered(x, ticket, CABIN, 0, ticket);
            altered(x, ticket, CABIN, NONE, NONE);
        }
        altered(x, FIRST, CABIN, 3, NONE);
        altered(x, CARRIED_IN_0, CABIN, 3, NONE);
        altered(x, CARRIED_IN_0, HOW, LEFT, CARRIED_IN_0);
        altered(x, CARRIED_IN_0, HOW, CHECKED, CARRIED_IN_0);
        for (int ticket : new int[] {CARRIED_IN_0, CARRIED_IN_1, ELSEWHERE, FIRST, BEHIND}) {
            altered(x, ticket, CABIN, NONE, NONE);
        }
    }

    private static void cabinOnlyIfWishing() {
        sentence("Promise 21", "and WISHING,");
        Terminal x = everyHow();
        due(0, x.ticketOf(BESIDE, 3));
        altered(x, BESIDE, CABIN, 3, BESIDE);
        altered(x, BESIDE, CABIN, 4, BESIDE);
        altered(x, BESIDE, CABIN, 0, FIRST);
        altered(x, BESIDE, CABIN, 1, BESIDE);
        due(1, x.ticketOf(BEHIND, 3));
        altered(x, BEHIND, CABIN, 4, NONE);
        Terminal carried = opened(1, 100);
        carried.cabin(0, 6);
        come(carried, 0, 20);
        carried.settle(500);
        carried.depart(0);
        how(carried, 0, CARRIED);
        altered(carried, 0, CABIN, 0, 0);
    }

    private static void cabinOfTheShip() {
        sentence("Promise 21", "one of the ship,");
        Terminal x = everyHow();
        altered(x, FIRST, CABIN, 2, FIRST);
        altered(x, CARRIED_IN_0, CABIN, 2, CARRIED_IN_0);
        altered(x, BEHIND, CABIN, 2, BEHIND);
        due(6, x.ticketOf(ELSEWHERE, 3));
        altered(x, ELSEWHERE, CABIN, 3, ELSEWHERE);
        for (int cabin : noneSuch(5)) {
            if (cabin != NONE) {
                altered(x, FIRST, CABIN, cabin, FIRST);
                altered(x, CARRIED_IN_0, CABIN, cabin, CARRIED_IN_0);
            }
        }
        altered(x, FIRST, CABIN, 119, FIRST);
        altered(x, FIRST, CABIN, 120, FIRST);
    }

    private static void cabinWithBedsEnough() {
        sentence("Promise 21", "with BEDS enough,");
        for (int wish = 1; wish <= 6; wish++) {
            Terminal x = opened(1, 100);
            for (int beds = 1; beds <= 6; beds++) {
                x.cabin(0, beds);
            }
            come(x, 0, 20, 0, wish, 1);
            x.settle(500);
            for (int round = 0; round < 2; round++) {
                for (int beds = 1; beds <= 6; beds++) {
                    altered(x, 0, CABIN, beds - 1, beds >= wish ? NONE : 0);
                }
                x.depart(0);
            }
            how(x, 0, CARRIED);
        }
    }

    private static void noOtherHasTheCabin() {
        sentence("Promise 21", "and no other ticket ABOARD or CARRIED of its sailing has it;");
        Terminal x = everyHow();
        due(x.ticketOf(CARRIED_IN_0, CABIN), x.ticketOf(FIRST, CABIN));
        due(NONE, x.audit(0, 0, 0));
        altered(x, FIRST, CABIN, 1, FIRST);
        altered(x, BEHIND, CABIN, 0, FIRST);
        altered(x, CARRIED_IN_0, CABIN, 1, CARRIED_IN_0);
        altered(x, CARRIED_IN_1, CABIN, 0, CARRIED_IN_0);
        Terminal two = opened(1, 100);
        two.cabin(0, 2);
        two.cabin(0, 2);
        two.cabin(0, 2);
        come(two, 0, 20, 0, 2, 1);
        come(two, 0, 20, 0, 2, 1);
        two.settle(500);
        for (int round = 0; round < 2; round++) {
            for (int ticket = 0; ticket < 2; ticket++) {
                altered(two, ticket, CABIN, ticket, NONE);
                altered(two, ticket, CABIN, 1 - ticket, 0);
                altered(two, ticket, CABIN, 2, NONE);
            }
            two.depart(0);
        }
    }

    private static void cameIfHereToCarried() {
        sentence("Promise 21", "it came (0 to 200,000) if it's HERE, CHECKED, ABOARD, LEFT or CARRIED,");
        Terminal x = everyHow();
        for (int ticket : CAME) {
            altered(x, ticket, MINUTE, 0, NONE);
            altered(x, ticket, MINUTE, 200000, NONE);
            for (int minute : outside(0, 200000)) {
                altered(x, ticket, MINUTE, minute, ticket);
            }
        }
        for (int how : new int[] {HERE, CHECKED, LEFT, CARRIED}) {
            altered(x, STILL_BOOKED, HOW, how, STILL_BOOKED);
            altered(x, COMES, HOW, how, NONE);
        }
    }

    private static void notCameIfBooked() {
        sentence("Promise 21", "not (NONE) if BOOKED or GONE WITHOUT;");
        Terminal x = everyHow();
        for (int ticket : new int[] {STILL_BOOKED, NEVER_CAME}) {
            due(NONE, x.audit(ticket, MINUTE, 0));
            for (int minute : new int[] {0, 1, 200000, 200001, -2, Integer.MIN_VALUE, Integer.MAX_VALUE}) {
                altered(x, ticket, MINUTE, minute, ticket);
            }
        }
        altered(x, COMES, HOW, BOOKED, COMES);
        altered(x, PAID_ALL, MINUTE, NONE, NONE);
        altered(x, PAID_ALL, MINUTE, 0, NONE);
        altered(x, PAID_ALL, MINUTE, 200000, NONE);
    }

    private static void paidBackAll() {
        sentence("Promise 21", "what was paid back is all that it paid if PAID BACK,");
        Terminal x = everyHow();
        int paid = x.ticketOf(PAID_ALL, PAID);
        due(5200, paid);
        for (int back : new int[] {0, 1, -1, paid / 2, paid - 1, paid + 1, -paid}) {
            altered(x, PAID_ALL, BACK, back, PAID_ALL);
        }
        altered(x, PAID_ALL, PAID, paid + 1, PAID_ALL);
        altered(x, PAID_ALL, PAID, paid - 1, PAID_ALL);
        altered(x, PAID_ALL, PAID, paid, NONE);
    }

    private static void paidBackHalf() {
        sentence("Promise 21", "half of that (cut) if GONE WITHOUT,");
        Terminal x = everyHow();
        int paid = x.ticketOf(NEVER_CAME, PAID);
        due(3563, paid);
        due(1781, x.ticketOf(NEVER_CAME, BACK));
        for (int back : new int[] {0, 1, -1, 1780, 1782, paid}) {
            altered(x, NEVER_CAME, BACK, back, NEVER_CAME);
        }
        altered(x, NEVER_CAME, PAID, 3562, NONE);
        altered(x, NEVER_CAME, PAID, 3561, NEVER_CAME);
        altered(x, NEVER_CAME, PAID, 3564, NEVER_CAME);
    }

    private static void paidBackElse0() {
        sentence("Promise 21", "else 0;");
        Terminal x = everyHow();
        for (int ticket = 0; ticket < TICKETS; ticket++) {
            if (ticket != PAID_ALL && ticket != NEVER_CAME) {
                int paid = x.ticketOf(ticket, PAID);
                for (int back : new int[] {1, -1, paid, paid / 2}) {
                    altered(x, ticket, BACK, back, ticket);
                }
            }
        }
    }

    private static void paid500AtLeast() {
        sentence("Promise 21", "it paid 500 at least.");
        Terminal x = everyHow();
        for (int ticket = 0; ticket < TICKETS; ticket++) {
            if (ticket != PAID_ALL && ticket != NEVER_CAME) {
                altered(x, ticket, PAID, 500, NONE);
                altered(x, ticket, PAID, 501, NONE);
                altered(x, ticket, PAID, Integer.MAX_VALUE, NONE);
            }
            for (int paid : new int[] {499, 0, -1, -500, Integer.MIN_VALUE}) {
                altered(x, ticket, PAID, paid, ticket);
            }
        }
    }
}
