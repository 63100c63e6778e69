/**
 * A car ferry terminal: ships with decks and cabins, sailings, tickets, and the turns in which the
 * vehicles are checked, brought aboard, and brought off again when a sailing is recalled.
 */
public final class FerryTerminal {
    /** There is none. */
    public static final int NONE = -1;

    /** What audit() answers when it is asked for a ticket or a number that there is not. */
    private static final int NOTHING_SUCH = -2;

    private static final int MOST_SHIPS = 12;
    private static final int MOST_CABINS = 120;
    private static final int MOST_SAILINGS = 60;
    private static final int MOST_TICKETS = 400;
    private static final int MOST_LOGGED = 3000;
    private static final int MOST_TURNS = 500;
    private static final int MOST_BEDS = 6;
    private static final int LAST_SAILING_MINUTE = 100000;
    private static final int LAST_ARRIVAL_MINUTE = 200000;
    private static final int APART = 90;
    private static final int LATE_WITHIN = 30;
    private static final int LEAST_FARE = 500;
    private static final int LANES_UNDER = 2;

    private static final int TALL = 2;
    private static final int MIDDLE = 1;

    private static final int PLANNED = 0;
    private static final int OPEN = 1;
    private static final int DEPARTED = 2;
    private static final int RECALLED = 3;

    private static final int BOOKED = 0;
    private static final int HERE = 1;
    private static final int CHECKED = 2;
    private static final int ABOARD = 3;
    private static final int LEFT = 4;
    private static final int PAID_BACK = 5;
    private static final int CARRIED = 6;
    private static final int GONE_WITHOUT = 7;

    private static final int TURN_CHECK = 0;
    private static final int TURN_ABOARD = 1;
    private static final int TURN_LEFT = 2;
    private static final int TURN_CABIN = 3;
    private static final int TURN_NO_CABIN = 4;
    private static final int TURN_TALLY = 5;
    private static final int TURN_OFF = 6;
    private static final int TURN_ON = 7;
    private static final int TURN_PAID_BACK = 8;

    private static final int OF_HOW = 4;
    private static final int OF_MINUTE = 5;
    private static final int OF_DECK = 6;
    private static final int OF_LANE = 7;
    private static final int OF_PLACE = 8;
    private static final int OF_CABIN = 9;
    private static final int OF_PAID = 10;
    private static final int OF_BACK = 11;

    private final Ship[] ships;
    private int shipCount;
    private final Cabin[] cabins;
    private int cabinCount;
    private final Sailing[] sailings;
    private int sailingCount;
    private final Ticket[] tickets;
    private int ticketCount;
    private final int[] logKinds;
    private final int[] logTickets;
    private final int[] logSailings;
    private int turnsEver;

    public FerryTerminal() {
        ships = new Ship[MOST_SHIPS];
        cabins = new Cabin[MOST_CABINS];
        sailings = new Sailing[MOST_SAILINGS];
        tickets = new Ticket[MOST_TICKETS];
        logKinds = new int[MOST_LOGGED];
        logTickets = new int[MOST_LOGGED];
        logSailings = new int[MOST_LOGGED];
    }

    // ---- ships, cabins, sailings, tickets

    public int ship(int decks, int lanes, int length, boolean half) {
        if (shipCount >= ships.length || !within(decks, 1, 4) || !within(lanes, 1, 6)
                || !within(length, 50, 2000)) {
            return NONE;
        }
        if (half && (decks < 2 || lanes < LANES_UNDER)) {
            return NONE;
        }
        ships[shipCount] = new Ship(shipCount, decks, lanes, length, half);
        return shipCount++;
    }

    public int cabin(int ship, int beds) {
        Ship owner = shipNumbered(ship);
        if (owner == null || cabinCount >= cabins.length || !within(beds, 1, MOST_BEDS)) {
            return NONE;
        }
        cabins[cabinCount] = new Cabin(owner, beds);
        owner.cabinCount++;
        return cabinCount++;
    }

    public int sailing(int ship, int minute, int line) {
        Ship vessel = shipNumbered(ship);
        if (vessel == null || sailingCount >= sailings.length
                || !within(minute, 0, LAST_SAILING_MINUTE) || !within(line, 0, 7)) {
            return NONE;
        }
        if (liesTooNear(vessel, minute)) {
            return NONE;
        }
        sailings[sailingCount] = new Sailing(sailingCount, vessel, minute, line);
        return sailingCount++;
    }

    private boolean liesTooNear(Ship vessel, int minute) {
        for (int i = 0; i < sailingCount; i++) {
            Sailing other = sailings[i];
            if (other.vessel == vessel && other.how != RECALLED
                    && Math.abs(other.minute - minute) < APART) {
                return true;
            }
        }
        return false;
    }

    public int book(int sailing, int length, int height, int wish) {
        Sailing trip = sailingNumbered(sailing);
        if (trip == null || !trip.takesTickets() || ticketCount >= tickets.length) {
            return NONE;
        }
        if (!within(length, 20, 250) || !within(height, 0, TALL) || !within(wish, 0, MOST_BEDS)
                || trip.vessel.length < length) {
            return NONE;
        }
        int paid = fare(length, height, wish, trip.line);
        tickets[ticketCount] = new Ticket(ticketCount, trip, length, height, wish, paid);
        return ticketCount++;
    }

    private static int fare(int length, int height, int wish, int line) {
        int plain = LEAST_FARE + 3 * length + 700 * height + 1500 * wish;
        return (plain * (100 + 5 * line) + 50) / 100;
    }

    public boolean arrive(int ticket, int minute) {
        Ticket comer = ticketNumbered(ticket);
        if (comer == null || comer.how != BOOKED || !within(minute, 0, LAST_ARRIVAL_MINUTE)
                || !comer.trip.isPlannedOrOpen()) {
            return false;
        }
        comer.how = HERE;
        comer.minute = minute;
        return true;
    }

    public boolean open(int sailing) {
        Sailing trip = sailingNumbered(sailing);
        if (trip == null || trip.how != PLANNED || hasOpenSailing(trip.vessel)) {
            return false;
        }
        trip.how = OPEN;
        return true;
    }

    private boolean hasOpenSailing(Ship vessel) {
        for (int i = 0; i < sailingCount; i++) {
            if (sailings[i].vessel == vessel && sailings[i].how == OPEN) {
                return true;
            }
        }
        return false;
    }

    // ---- turns

    public int settle(int n) {
        if (!within(n, 0, MOST_TURNS)) {
            return NONE;
        }
        for (int done = 0; done < n; done++) {
            Sailing trip = firstWithTurn();
            if (trip == null) {
                return done;
            }
            if (trip.recallIn == 0) {
                doRecallTurn(trip);
            } else {
                doBoardingTurn(trip);
                trip.recallIn -= trip.recallIn > 0 ? 1 : 0;
            }
            bringRecallOn(trip);
        }
        return n;
    }

    private Sailing firstWithTurn() {
        for (int i = 0; i < sailingCount; i++) {
            Sailing trip = sailings[i];
            // A sailing in recall without a turn left is RECALLED already, so an OPEN one has one.
            if (trip.how == OPEN && (trip.recallIn == 0 || hasBoardingTurn(trip))) {
                return trip;
            }
        }
        return null;
    }

    private boolean hasBoardingTurn(Sailing trip) {
        if (trip.onRamp != null) {
            return true;
        }
        for (int i = 0; i < ticketCount; i++) {
            Ticket ticket = tickets[i];
            if (ticket.trip == trip && (ticket.how == HERE || ticket.how == CHECKED)) {
                return true;
            }
        }
        return false;
    }

    private void writeLog(int kind, Ticket ticket, Sailing trip) {
        if (turnsEver < MOST_LOGGED) {
            logKinds[turnsEver] = kind;
            logTickets[turnsEver] = ticket.number;
            logSailings[turnsEver] = trip.number;
        }
        turnsEver++;
        trip.turns++;
    }

    private void doBoardingTurn(Sailing trip) {
        Ticket comer = firstHere(trip);
        if (comer != null) {
            comer.how = CHECKED;
            writeLog(TURN_CHECK, comer, trip);
        } else if (trip.onRamp != null) {
            goOnAfterRamp(trip, trip.onRamp);
        } else {
            Ticket next = firstOfBoardingList(trip);
            if (next != null) {
                doRampTurn(trip, next);
            }
        }
    }

    private Ticket firstHere(Sailing trip) {
        Ticket first = null;
        for (int i = 0; i < ticketCount; i++) {
            Ticket ticket = tickets[i];
            if (ticket.trip == trip && ticket.how == HERE
                    && (first == null || ticket.minute < first.minute)) {
                first = ticket;
            }
        }
        return first;
    }

    private Ticket firstOfBoardingList(Sailing trip) {
        Ticket first = null;
        for (int i = 0; i < ticketCount; i++) {
            Ticket ticket = tickets[i];
            if (ticket.trip == trip && ticket.how == CHECKED
                    && (first == null || ticket.boardsAheadOf(first))) {
                first = ticket;
            }
        }
        return first;
    }

    private void doRampTurn(Sailing trip, Ticket ticket) {
        if (!trip.vessel.placeByDeckRule(ticket)) {
            ticket.how = LEFT;
            writeLog(TURN_LEFT, ticket, trip);
            return;
        }
        ticket.how = ABOARD;
        ticket.boardedAt = turnsEver;
        trip.onRamp = ticket;
        trip.cabinIsNext = ticket.wish > 0;
        writeLog(TURN_ABOARD, ticket, trip);
    }

    private void goOnAfterRamp(Sailing trip, Ticket ticket) {
        if (trip.cabinIsNext) {
            trip.cabinIsNext = false;
            ticket.cabin = takeFreeCabin(trip.vessel, ticket.wish);
            writeLog(ticket.cabin == NONE ? TURN_NO_CABIN : TURN_CABIN, ticket, trip);
        } else {
            trip.onRamp = null;
            writeLog(TURN_TALLY, ticket, trip);
        }
    }

    private int takeFreeCabin(Ship vessel, int beds) {
        for (int i = 0; i < cabinCount; i++) {
            Cabin cabin = cabins[i];
            if (cabin.vessel == vessel && !cabin.taken && cabin.beds >= beds) {
                cabin.taken = true;
                return i;
            }
        }
        return NONE;
    }

    private void freeCabin(Ticket ticket) {
        if (within(ticket.cabin, 0, cabinCount - 1)) {
            cabins[ticket.cabin].taken = false;
        }
    }

    private void bringOff(Ticket ticket) {
        ticket.trip.vessel.clearPlace(ticket);
        freeCabin(ticket);
        ticket.cabin = NONE;
        ticket.how = CHECKED;
    }

    // ---- recalls

    public boolean recall(int sailing, int n) {
        Sailing trip = sailingNumbered(sailing);
        if (trip == null || trip.how != OPEN || trip.recallIn != NONE || !within(n, 0, 1000)) {
            return false;
        }
        trip.recallIn = n;
        bringRecallOn(trip);
        return true;
    }

    /** Lets a recall take effect, and ends the sailing, as soon as either is due. */
    private void bringRecallOn(Sailing trip) {
        if (trip.recallIn > 0 && !hasBoardingTurn(trip)) {
            trip.recallIn = 0;
        }
        if (trip.recallIn != 0) {
            return;
        }
        trip.onRamp = null;
        if (latestAboard(trip) == null && firstToMoveOn(trip) == null) {
            trip.how = RECALLED;
        }
    }

    private void doRecallTurn(Sailing trip) {
        Ticket latest = latestAboard(trip);
        if (latest != null) {
            bringOff(latest);
            writeLog(TURN_OFF, latest, trip);
            return;
        }
        Ticket mover = firstToMoveOn(trip);
        if (mover == null) {
            return;
        }
        Sailing next = nextOfLine(trip, mover.length);
        if (next == null) {
            mover.how = PAID_BACK;
            mover.back = mover.paid;
            writeLog(TURN_PAID_BACK, mover, trip);
        } else {
            mover.trip = next;
            mover.how = mover.how == BOOKED ? BOOKED : HERE;
            mover.timesOn++;
            writeLog(TURN_ON, mover, trip);
        }
    }

    private Ticket latestAboard(Sailing trip) {
        Ticket latest = null;
        for (int i = 0; i < ticketCount; i++) {
            Ticket ticket = tickets[i];
            if (ticket.trip == trip && ticket.how == ABOARD
                    && (latest == null || ticket.boardedAt > latest.boardedAt)) {
                latest = ticket;
            }
        }
        return latest;
    }

    private Ticket firstToMoveOn(Sailing trip) {
        for (int i = 0; i < ticketCount; i++) {
            Ticket ticket = tickets[i];
            if (ticket.trip == trip && ticket.how <= LEFT && ticket.how != ABOARD) {
                return ticket;
            }
        }
        return null;
    }

    private Sailing nextOfLine(Sailing trip, int length) {
        Sailing next = null;
        for (int i = 0; i < sailingCount; i++) {
            Sailing other = sailings[i];
            if (other.line == trip.line && other.minute > trip.minute && other.takesTickets()
                    && other.vessel.length >= length
                    && (next == null || other.minute < next.minute)) {
                next = other;
            }
        }
        return next;
    }

    // ---- departures, and bringing off by hand

    public int depart(int sailing) {
        Sailing trip = sailingNumbered(sailing);
        if (trip == null || trip.how != OPEN || trip.recallIn != NONE || hasBoardingTurn(trip)) {
            return NONE;
        }
        int carried = 0;
        for (int i = 0; i < ticketCount; i++) {
            Ticket ticket = tickets[i];
            if (ticket.trip == trip) {
                carried += ticket.how == ABOARD ? 1 : 0;
                endTicket(ticket);
            }
        }
        trip.how = DEPARTED;
        return carried;
    }

    private void endTicket(Ticket ticket) {
        if (ticket.how == ABOARD) {
            ticket.trip.vessel.clearPlace(ticket);
            // It keeps the cabin's number: a CARRIED ticket still tells which one it had.
            freeCabin(ticket);
            ticket.how = CARRIED;
        } else if (ticket.how == LEFT) {
            ticket.how = PAID_BACK;
            ticket.back = ticket.paid;
        } else if (ticket.how == BOOKED) {
            ticket.how = GONE_WITHOUT;
            ticket.back = ticket.paid / 2;
        }
    }

    public boolean off(int ticket) {
        Ticket vehicle = ticketNumbered(ticket);
        if (vehicle == null || vehicle.how != ABOARD || vehicle.behind != null) {
            return false;
        }
        Sailing trip = vehicle.trip;
        if (trip.how != OPEN || trip.onRamp == vehicle || trip.recallIn != NONE) {
            return false;
        }
        bringOff(vehicle);
        return true;
    }

    // ---- questions

    public int shipOf(int ship, int what) {
        Ship asked = shipNumbered(ship);
        if (asked == null) {
            return NONE;
        }
        switch (what) {
            case 0:
                return asked.decks;
            case 1:
                return asked.lanes;
            case 2:
                return asked.length;
            case 3:
                return asked.half ? 1 : 0;
            case 4:
                return asked.cabinCount;
            case 5:
                return asked.standing;
            default:
                return NONE;
        }
    }

    public int sailingOf(int sailing, int what) {
        Sailing asked = sailingNumbered(sailing);
        if (asked == null) {
            return NONE;
        }
        switch (what) {
            case 0:
                return asked.vessel.number;
            case 1:
                return asked.minute;
            case 2:
                return asked.line;
            case 3:
                return asked.how;
            case 4:
                return asked.turns;
            case 5:
                return asked.recallIn;
            case 6:
                return ticketsOf(asked);
            default:
                return NONE;
        }
    }

    private int ticketsOf(Sailing trip) {
        int found = 0;
        for (int i = 0; i < ticketCount; i++) {
            if (tickets[i].trip == trip) {
                found++;
            }
        }
        return found;
    }

    public int ticketOf(int ticket, int what) {
        Ticket asked = ticketNumbered(ticket);
        return asked == null ? NONE : asked.tell(what);
    }

    public int at(int ship, int deck, int lane, int place) {
        Ship asked = shipNumbered(ship);
        if (asked == null) {
            return NONE;
        }
        for (Ticket ticket = asked.nearestBow(deck, lane); ticket != null; ticket = ticket.behind) {
            if (within(place, ticket.place, ticket.place + ticket.length - 1)) {
                return ticket.number;
            }
        }
        return NONE;
    }

    public int lane(int ship, int deck, int lane, int what) {
        Ship asked = shipNumbered(ship);
        if (asked == null || !asked.hasLane(deck, lane)) {
            return NONE;
        }
        switch (what) {
            case 0:
                return asked.freePlaces(deck, lane);
            case 1:
                return asked.longestGap(deck, lane);
            case 2:
            case 3:
            case 4:
                return asked.mayStand(deck, lane, what - 2) ? 1 : 0;
            default:
                return NONE;
        }
    }

    public int log(int i, int what) {
        if (!within(i, 0, Math.min(turnsEver, MOST_LOGGED) - 1)) {
            return NONE;
        }
        switch (what) {
            case 0:
                return logKinds[i];
            case 1:
                return logTickets[i];
            case 2:
                return logSailings[i];
            default:
                return NONE;
        }
    }

    public int count(int what) {
        switch (what) {
            case 0:
                return shipCount;
            case 1:
                return cabinCount;
            case 2:
                return sailingCount;
            case 3:
                return ticketCount;
            case 4:
                return turnsEver;
            default:
                return NONE;
        }
    }

    public int total(int sailing, int what) {
        Sailing asked = sailingNumbered(sailing);
        if (asked == null || !within(what, 0, 3)) {
            return NONE;
        }
        int sum = 0;
        for (int i = 0; i < ticketCount; i++) {
            Ticket ticket = tickets[i];
            if (ticket.trip == asked && (ticket.how == ABOARD || ticket.how == CARRIED)) {
                sum += shareOfTotal(ticket, what);
            }
        }
        return sum;
    }

    private static int shareOfTotal(Ticket ticket, int what) {
        switch (what) {
            case 0:
                return 1;
            case 1:
                return ticket.length;
            case 2:
                return ticket.cabin == NONE ? 0 : ticket.wish;
            default:
                return ticket.paid;
        }
    }

    public long kept() {
        long sum = 0;
        for (int i = 0; i < ticketCount; i++) {
            sum += tickets[i].paid - tickets[i].back;
        }
        return sum;
    }

    public int audit(int ticket, int what, int mask) {
        if (what == 0) {
            return firstWrong(new Alteration(null, what, 0));
        }
        Ticket altered = ticketNumbered(ticket);
        if (altered == null || !within(what, OF_HOW, OF_BACK)) {
            return NOTHING_SUCH;
        }
        return firstWrong(new Alteration(altered, what, mask));
    }

    // ---- the audit: everything is read through the alteration

    private int firstWrong(Alteration seen) {
        for (int i = 0; i < ticketCount; i++) {
            Ticket ticket = tickets[i];
            if (!placeAgrees(seen, ticket) || !cabinAgrees(seen, ticket)
                    || !minuteAgrees(seen, ticket) || !moneyAgrees(seen, ticket)) {
                return i;
            }
        }
        return NONE;
    }

    private boolean placeAgrees(Alteration seen, Ticket ticket) {
        int deck = seen.number(ticket, OF_DECK);
        int lane = seen.number(ticket, OF_LANE);
        int place = seen.number(ticket, OF_PLACE);
        if (seen.number(ticket, OF_HOW) != ABOARD) {
            return deck == NONE && lane == NONE && place == NONE;
        }
        Ship vessel = ticket.trip.vessel;
        if (!vessel.hasLane(deck, lane) || !within(place, 0, vessel.length - ticket.length)) {
            return false;
        }
        for (int i = 0; i < ticketCount; i++) {
            if (tickets[i] != ticket && tickets[i].trip == ticket.trip
                    && overlap(seen, ticket, tickets[i])) {
                return false;
            }
        }
        return true;
    }

    private static boolean overlap(Alteration seen, Ticket ticket, Ticket other) {
        if (seen.number(other, OF_HOW) != ABOARD
                || seen.number(other, OF_DECK) != seen.number(ticket, OF_DECK)
                || seen.number(other, OF_LANE) != seen.number(ticket, OF_LANE)) {
            return false;
        }
        // In long: an altered place may lie so far off that its end would wrap around.
        long from = seen.number(ticket, OF_PLACE);
        long otherFrom = seen.number(other, OF_PLACE);
        return otherFrom < from + ticket.length && from < otherFrom + other.length;
    }

    private boolean cabinAgrees(Alteration seen, Ticket ticket) {
        int number = seen.number(ticket, OF_CABIN);
        if (number == NONE) {
            return true;
        }
        if (!seen.mayHaveCabin(ticket) || ticket.wish == 0 || !within(number, 0, cabinCount - 1)) {
            return false;
        }
        Cabin cabin = cabins[number];
        if (cabin.vessel != ticket.trip.vessel || cabin.beds < ticket.wish) {
            return false;
        }
        for (int i = 0; i < ticketCount; i++) {
            Ticket other = tickets[i];
            if (other != ticket && other.trip == ticket.trip && seen.mayHaveCabin(other)
                    && seen.number(other, OF_CABIN) == number) {
                return false;
            }
        }
        return true;
    }

    private static boolean minuteAgrees(Alteration seen, Ticket ticket) {
        int minute = seen.number(ticket, OF_MINUTE);
        switch (seen.number(ticket, OF_HOW)) {
            case HERE:
            case CHECKED:
            case ABOARD:
            case LEFT:
            case CARRIED:
                return within(minute, 0, LAST_ARRIVAL_MINUTE);
            case BOOKED:
            case GONE_WITHOUT:
                return minute == NONE;
            default:
                // One that is PAID BACK may have come or not.
                return true;
        }
    }

    private static boolean moneyAgrees(Alteration seen, Ticket ticket) {
        int how = seen.number(ticket, OF_HOW);
        int paid = seen.number(ticket, OF_PAID);
        int due = 0;
        if (how == PAID_BACK) {
            due = paid;
        } else if (how == GONE_WITHOUT) {
            due = paid / 2;
        }
        return within(how, BOOKED, GONE_WITHOUT) && paid >= LEAST_FARE
                && seen.number(ticket, OF_BACK) == due;
    }

    // ---- finding by numbers

    private static boolean within(int number, int least, int most) {
        return number >= least && number <= most;
    }

    private Ship shipNumbered(int number) {
        return within(number, 0, shipCount - 1) ? ships[number] : null;
    }

    private Sailing sailingNumbered(int number) {
        return within(number, 0, sailingCount - 1) ? sailings[number] : null;
    }

    private Ticket ticketNumbered(int number) {
        return within(number, 0, ticketCount - 1) ? tickets[number] : null;
    }

    // ---- the classes inside

    private static final class Ship {
        private final int number;
        private final int decks;
        private final int lanes;
        private final int length;
        private final boolean half;
        private int cabinCount;
        private int standing;
        /** Of each lane, deck by deck, the vehicle nearest the bow; the others are chained behind. */
        private final Ticket[] firsts;

        private Ship(int number, int decks, int lanes, int length, boolean half) {
            this.number = number;
            this.decks = decks;
            this.lanes = lanes;
            this.length = length;
            this.half = half;
            this.firsts = new Ticket[decks * lanes];
        }

        private boolean hasLane(int deck, int lane) {
            return deck >= 0 && deck < decks && lane >= 0 && lane < lanes;
        }

        private Ticket nearestBow(int deck, int lane) {
            return hasLane(deck, lane) ? firsts[deck * lanes + lane] : null;
        }

        private int freePlaces(int deck, int lane) {
            int free = length;
            for (Ticket ticket = nearestBow(deck, lane); ticket != null; ticket = ticket.behind) {
                free -= ticket.length;
            }
            return free;
        }

        private int longestGap(int deck, int lane) {
            int longest = 0;
            int from = 0;
            for (Ticket ticket = nearestBow(deck, lane); ticket != null; ticket = ticket.behind) {
                longest = Math.max(longest, ticket.place - from);
                from = ticket.place + ticket.length;
            }
            return Math.max(longest, length - from);
        }

        private int firstGap(int deck, int lane, int wanted) {
            int from = 0;
            for (Ticket ticket = nearestBow(deck, lane); ticket != null; ticket = ticket.behind) {
                if (ticket.place - from >= wanted) {
                    return from;
                }
                from = ticket.place + ticket.length;
            }
            return length - from >= wanted ? from : NONE;
        }

        private boolean mayStand(int deck, int lane, int height) {
            if (height == TALL && deck > 0 || height == MIDDLE && deck > 1) {
                return false;
            }
            if (!half) {
                return true;
            }
            if (deck == 1) {
                return !tallStandsUnder();
            }
            boolean tallUnder = deck == 0 && lane < LANES_UNDER && height == TALL;
            return !tallUnder || !somethingOnDeckOne();
        }

        private boolean somethingOnDeckOne() {
            for (int lane = 0; lane < lanes; lane++) {
                if (nearestBow(1, lane) != null) {
                    return true;
                }
            }
            return false;
        }

        private boolean tallStandsUnder() {
            for (int lane = 0; lane < LANES_UNDER; lane++) {
                for (Ticket ticket = nearestBow(0, lane); ticket != null; ticket = ticket.behind) {
                    if (ticket.height == TALL) {
                        return true;
                    }
                }
            }
            return false;
        }

        private boolean placeByDeckRule(Ticket ticket) {
            int bestDeck = NONE;
            int bestLane = NONE;
            int leastFree = 0;
            for (int deck = 0; deck < decks; deck++) {
                for (int lane = 0; lane < lanes; lane++) {
                    int free = freePlaces(deck, lane);
                    if ((bestDeck == NONE || free < leastFree)
                            && mayStand(deck, lane, ticket.height)
                            && firstGap(deck, lane, ticket.length) != NONE) {
                        bestDeck = deck;
                        bestLane = lane;
                        leastFree = free;
                    }
                }
            }
            if (bestDeck == NONE) {
                return false;
            }
            putInPlace(ticket, bestDeck, bestLane, firstGap(bestDeck, bestLane, ticket.length));
            return true;
        }

        private void putInPlace(Ticket ticket, int deck, int lane, int place) {
            ticket.deck = deck;
            ticket.lane = lane;
            ticket.place = place;
            Ticket ahead = nextAhead(ticket);
            ticket.behind = ahead == null ? nearestBow(deck, lane) : ahead.behind;
            chain(ticket, ahead, ticket);
            standing++;
        }

        private void clearPlace(Ticket ticket) {
            chain(ticket, nextAhead(ticket), ticket.behind);
            ticket.behind = null;
            ticket.deck = NONE;
            ticket.lane = NONE;
            ticket.place = NONE;
            standing--;
        }

        private Ticket nextAhead(Ticket ticket) {
            Ticket ahead = null;
            Ticket other = nearestBow(ticket.deck, ticket.lane);
            while (other != null && other.place < ticket.place) {
                ahead = other;
                other = other.behind;
            }
            return ahead;
        }

        /** In the lane of a ticket, what follows the one ahead (none ahead: the first of the lane). */
        private void chain(Ticket ticket, Ticket ahead, Ticket follower) {
            if (ahead != null) {
                ahead.behind = follower;
            } else if (hasLane(ticket.deck, ticket.lane)) {
                firsts[ticket.deck * lanes + ticket.lane] = follower;
            }
        }
    }

    private static final class Cabin {
        private final Ship vessel;
        private final int beds;
        private boolean taken;

        private Cabin(Ship vessel, int beds) {
            this.vessel = vessel;
            this.beds = beds;
        }
    }

    private static final class Sailing {
        private final int number;
        private final Ship vessel;
        private final int minute;
        private final int line;
        private int how = PLANNED;
        private int turns;
        /** Turns till a recall takes effect; 0 once it has, NONE while none is asked. */
        private int recallIn = NONE;
        /** The vehicle of the latest ramp turn while its CABIN or TALLY turn is still to come. */
        private Ticket onRamp;
        private boolean cabinIsNext;

        private Sailing(int number, Ship vessel, int minute, int line) {
            this.number = number;
            this.vessel = vessel;
            this.minute = minute;
            this.line = line;
        }

        private boolean isPlannedOrOpen() {
            return how == PLANNED || how == OPEN;
        }

        private boolean takesTickets() {
            return isPlannedOrOpen() && recallIn == NONE;
        }
    }

    private static final class Ticket {
        private final int number;
        private Sailing trip;
        private final int length;
        private final int height;
        private final int wish;
        private final int paid;
        private int how = BOOKED;
        private int minute = NONE;
        private int deck = NONE;
        private int lane = NONE;
        private int place = NONE;
        private int cabin = NONE;
        private int back;
        private int timesOn;
        /** Tells which vehicle came aboard later. */
        private int boardedAt;
        /** The next one in the lane, farther from the bow. */
        private Ticket behind;

        private Ticket(int number, Sailing trip, int length, int height, int wish, int paid) {
            this.number = number;
            this.trip = trip;
            this.length = length;
            this.height = height;
            this.wish = wish;
            this.paid = paid;
        }

        private boolean isLate() {
            return minute > trip.minute - LATE_WITHIN;
        }

        private boolean boardsAheadOf(Ticket other) {
            if (isLate() != other.isLate()) {
                return other.isLate();
            }
            return height == other.height ? number < other.number : height > other.height;
        }

        private int tell(int what) {
            switch (what) {
                case 0:
                    return trip.number;
                case 1:
                    return length;
                case 2:
                    return height;
                case 3:
                    return wish;
                case OF_HOW:
                    return how;
                case OF_MINUTE:
                    return minute;
                case OF_DECK:
                    return deck;
                case OF_LANE:
                    return lane;
                case OF_PLACE:
                    return place;
                case OF_CABIN:
                    return cabin;
                case OF_PAID:
                    return paid;
                case OF_BACK:
                    return back;
                case 12:
                    return timesOn;
                default:
                    return NONE;
            }
        }
    }

    /** The tickets' numbers as audit() sees them, one of them altered. */
    private static final class Alteration {
        private final Ticket altered;
        private final int what;
        private final int mask;

        private Alteration(Ticket altered, int what, int mask) {
            this.altered = altered;
            this.what = what;
            this.mask = mask;
        }

        private int number(Ticket ticket, int asked) {
            int told = ticket.tell(asked);
            return ticket == altered && asked == what ? told ^ mask : told;
        }

        private boolean mayHaveCabin(Ticket ticket) {
            int how = number(ticket, OF_HOW);
            return how == ABOARD || how == CARRIED;
        }
    }
}
