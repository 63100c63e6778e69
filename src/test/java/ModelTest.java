import java.util.ArrayList;
import java.util.Arrays;
import java.util.Comparator;
import java.util.List;
import java.util.Random;

/**
 * Long runs of calls, each answer compared with that of a plain second program, which keeps nothing but
 * the tickets' numbers and works out all else (what covers a place, which cabin is free) anew each time.
 * No object gets more than 512 calls: what later ones answer is free.
 */
public final class ModelTest {
    private static final int CALLS = 512;
    private static final int RUNS = 4000;

    private static final class MShip {
        int decks, lanes, length;
        boolean half;
    }

    private static final class MSailing {
        int ship, minute, line, how, turns, recall = -1, ramp = -1, stage;
    }

    /** Numbers 0 to 12 as ticketOf() tells them. */
    private static final class MTicket {
        final int[] is = new int[13];
        int boarded;
    }

    private static final class Model {
        final List<MShip> ships = new ArrayList<>();
        final List<int[]> cabins = new ArrayList<>();
        final List<MSailing> sailings = new ArrayList<>();
        final List<MTicket> tickets = new ArrayList<>();
        final List<int[]> log = new ArrayList<>();

        static boolean in(long a, long low, long high) {
            return a >= low && a <= high;
        }

        boolean isShip(int s) {
            return in(s, 0, ships.size() - 1);
        }

        boolean isSailing(int s) {
            return in(s, 0, sailings.size() - 1);
        }

        boolean isTicket(int t) {
            return in(t, 0, tickets.size() - 1);
        }

        int ship(int decks, int lanes, int length, boolean half) {
            boolean good = in(decks, 1, 4) && in(lanes, 1, 6) && in(length, 50, 2000)
                    && (!half || decks >= 2 && lanes >= 2) && ships.size() < 12;
            if (!good) {
                return -1;
            }
            MShip s = new MShip();
            s.decks = decks;
            s.lanes = lanes;
            s.length = length;
            s.half = half;
            ships.add(s);
            return ships.size() - 1;
        }

        int cabin(int ship, int beds) {
            if (!isShip(ship) || !in(beds, 1, 6) || cabins.size() == 120) {
                return -1;
            }
            cabins.add(new int[] {ship, beds});
            return cabins.size() - 1;
        }

        int sailing(int ship, int minute, int line) {
            if (!isShip(ship) || !in(minute, 0, 100000) || !in(line, 0, 7) || sailings.size() == 60) {
                return -1;
            }
            for (MSailing o : sailings) {
                if (o.ship == ship && o.how != 3 && o.minute > minute - 90 && o.minute < minute + 90) {
                    return -1;
                }
            }
            MSailing s = new MSailing();
            s.ship = ship;
            s.minute = minute;
            s.line = line;
            sailings.add(s);
            return sailings.size() - 1;
        }

        boolean takes(MSailing s) {
            return s.how < 2 && s.recall == -1;
        }

        int book(int sailing, int length, int height, int wish) {
            if (!isSailing(sailing) || !takes(sailings.get(sailing)) || tickets.size() == 400
                    || !in(length, 20, 250) || !in(height, 0, 2) || !in(wish, 0, 6)) {
                return -1;
            }
            MSailing s = sailings.get(sailing);
            if (ships.get(s.ship).length < length) {
                return -1;
            }
            MTicket t = new MTicket();
            Arrays.fill(t.is, 5, 10, -1);
            t.is[0] = sailing;
            t.is[1] = length;
            t.is[2] = height;
            t.is[3] = wish;
            double fare = (500 + 3 * length + 700 * height + 1500 * wish) * (100 + 5 * s.line) / 100.0;
            t.is[10] = (int) Math.floor(fare + 0.5);
            tickets.add(t);
            return tickets.size() - 1;
        }

        boolean arrive(int ticket, int minute) {
            if (!isTicket(ticket) || !in(minute, 0, 200000)) {
                return false;
            }
            int[] is = tickets.get(ticket).is;
            if (is[4] != 0 || sailings.get(is[0]).how > 1) {
                return false;
            }
            is[4] = 1;
            is[5] = minute;
            return true;
        }

        boolean open(int sailing) {
            if (!isSailing(sailing) || sailings.get(sailing).how != 0) {
                return false;
            }
            for (MSailing o : sailings) {
                if (o.how == 1 && o.ship == sailings.get(sailing).ship) {
                    return false;
                }
            }
            sailings.get(sailing).how = 1;
            return true;
        }

        List<Integer> of(int sailing, int... hows) {
            List<Integer> all = new ArrayList<>();
            for (int t = 0; t < tickets.size(); t++) {
                for (int how : hows) {
                    if (tickets.get(t).is[0] == sailing && tickets.get(t).is[4] == how) {
                        all.add(t);
                    }
                }
            }
            return all;
        }

        boolean hasTurn(int sailing) {
            return sailings.get(sailing).ramp >= 0 || !of(sailing, 1, 2).isEmpty();
        }

        boolean recall(int sailing, int n) {
            if (!isSailing(sailing) || !in(n, 0, 1000)) {
                return false;
            }
            MSailing s = sailings.get(sailing);
            if (s.how != 1 || s.recall != -1) {
                return false;
            }
            s.recall = n;
            lookAtRecall(sailing);
            return true;
        }

        void lookAtRecall(int sailing) {
            MSailing s = sailings.get(sailing);
            if (s.recall == -1) {
                return;
            }
            if (s.recall == 0 || !hasTurn(sailing)) {
                s.recall = 0;
                s.ramp = -1;
                s.stage = 0;
                if (of(sailing, 0, 1, 2, 3, 4).isEmpty()) {
                    s.how = 3;
                }
            }
        }

        int settle(int n) {
            if (!in(n, 0, 500)) {
                return -1;
            }
            int done = 0;
            while (done < n && oneTurn()) {
                done++;
            }
            return done;
        }

        boolean oneTurn() {
            for (int s = 0; s < sailings.size(); s++) {
                MSailing sailing = sailings.get(s);
                if (sailing.how != 1) {
                    continue;
                }
                if (sailing.recall == 0) {
                    recallTurn(s);
                } else if (hasTurn(s)) {
                    turn(s);
                    if (sailing.recall > 0) {
                        sailing.recall--;
                    }
                } else {
                    continue;
                }
                sailing.turns++;
                lookAtRecall(s);
                return true;
            }
            return false;
        }

        void note(int kind, int ticket, int sailing) {
            log.add(new int[] {kind, ticket, sailing});
        }

        void turn(int s) {
            MSailing sailing = sailings.get(s);
            List<Integer> here = of(s, 1);
            if (!here.isEmpty()) {
                here.sort(Comparator.comparingInt((Integer t) -> tickets.get(t).is[5]).thenComparingInt(t -> t));
                tickets.get(here.get(0)).is[4] = 2;
                note(0, here.get(0), s);
                return;
            }
            if (sailing.ramp >= 0) {
                MTicket t = tickets.get(sailing.ramp);
                if (sailing.stage == 0 && t.is[3] > 0) {
                    t.is[9] = freeCabin(sailing.ship, t.is[3]);
                    note(t.is[9] < 0 ? 4 : 3, sailing.ramp, s);
                    sailing.stage = 1;
                } else {
                    note(5, sailing.ramp, s);
                    sailing.ramp = -1;
                }
                return;
            }
            List<Integer> checked = of(s, 2);
            checked.sort(Comparator
                    .comparingInt((Integer t) -> tickets.get(t).is[5] + 30 > sailing.minute ? 1 : 0)
                    .thenComparingInt(t -> -tickets.get(t).is[2]).thenComparingInt(t -> t));
            ramp(s, checked.get(0));
        }

        void ramp(int s, int ticket) {
            MTicket t = tickets.get(ticket);
            int[] spot = deckRule(sailings.get(s).ship, t.is[1], t.is[2]);
            if (spot == null) {
                t.is[4] = 4;
                note(2, ticket, s);
                return;
            }
            t.is[4] = 3;
            System.arraycopy(spot, 0, t.is, 6, 3);
            t.boarded = log.size();
            sailings.get(s).ramp = ticket;
            sailings.get(s).stage = 0;
            note(1, ticket, s);
        }

        int freeCabin(int ship, int beds) {
            for (int c = 0; c < cabins.size(); c++) {
                if (cabins.get(c)[0] != ship || cabins.get(c)[1] < beds) {
                    continue;
                }
                boolean taken = false;
                for (MTicket t : tickets) {
                    taken |= t.is[4] == 3 && t.is[9] == c;
                }
                if (!taken) {
                    return c;
                }
            }
            return -1;
        }

        /** What covers each place of a lane. */
        int[] covers(int ship, int deck, int lane) {
            int[] places = new int[ships.get(ship).length];
            Arrays.fill(places, -1);
            for (int n = 0; n < tickets.size(); n++) {
                int[] is = tickets.get(n).is;
                if (is[4] == 3 && sailings.get(is[0]).ship == ship && is[6] == deck && is[7] == lane) {
                    Arrays.fill(places, is[8], is[8] + is[1], n);
                }
            }
            return places;
        }

        boolean mayStand(int ship, int deck, int lane, int height) {
            MShip s = ships.get(ship);
            int highest = deck == 0 ? 2 : deck == 1 ? 1 : 0;
            if (height > highest) {
                return false;
            }
            if (!s.half) {
                return true;
            }
            boolean tallUnder = false;
            boolean above = false;
            for (MTicket t : tickets) {
                if (t.is[4] == 3 && sailings.get(t.is[0]).ship == ship) {
                    tallUnder |= t.is[6] == 0 && t.is[7] <= 1 && t.is[2] == 2;
                    above |= t.is[6] == 1;
                }
            }
            if (deck == 1 && tallUnder) {
                return false;
            }
            return !(deck == 0 && lane <= 1 && height == 2 && above);
        }

        int[] deckRule(int ship, int length, int height) {
            int[] best = null;
            int bestFree = Integer.MAX_VALUE;
            for (int deck = 0; deck < ships.get(ship).decks; deck++) {
                for (int lane = 0; lane < ships.get(ship).lanes; lane++) {
                    if (!mayStand(ship, deck, lane, height)) {
                        continue;
                    }
                    int[] places = covers(ship, deck, lane);
                    int free = 0;
                    int run = 0;
                    int first = -1;
                    for (int p = 0; p < places.length; p++) {
                        run = places[p] < 0 ? run + 1 : 0;
                        free += places[p] < 0 ? 1 : 0;
                        if (run == length && first < 0) {
                            first = p - length + 1;
                        }
                    }
                    if (first >= 0 && free < bestFree) {
                        bestFree = free;
                        best = new int[] {deck, lane, first};
                    }
                }
            }
            return best;
        }

        void recallTurn(int s) {
            List<Integer> aboard = of(s, 3);
            if (!aboard.isEmpty()) {
                aboard.sort(Comparator.comparingInt(t -> -tickets.get(t).boarded));
                MTicket t = tickets.get(aboard.get(0));
                t.is[4] = 2;
                Arrays.fill(t.is, 6, 10, -1);
                note(6, aboard.get(0), s);
                return;
            }
            List<Integer> rest = of(s, 0, 1, 2, 4);
            rest.sort(Comparator.naturalOrder());
            MTicket t = tickets.get(rest.get(0));
            List<Integer> next = new ArrayList<>();
            for (int o = 0; o < sailings.size(); o++) {
                MSailing other = sailings.get(o);
                if (takes(other) && other.line == sailings.get(s).line
                        && other.minute > sailings.get(s).minute
                        && ships.get(other.ship).length >= t.is[1]) {
                    next.add(o);
                }
            }
            next.sort(Comparator.comparingInt((Integer o) -> sailings.get(o).minute).thenComparingInt(o -> o));
            if (next.isEmpty()) {
                t.is[4] = 5;
                t.is[11] = t.is[10];
                note(8, rest.get(0), s);
            } else {
                t.is[0] = next.get(0);
                t.is[4] = t.is[4] == 0 ? 0 : 1;
                t.is[12]++;
                note(7, rest.get(0), s);
            }
        }

        int depart(int sailing) {
            if (!isSailing(sailing)) {
                return -1;
            }
            MSailing s = sailings.get(sailing);
            if (s.how != 1 || s.recall != -1 || hasTurn(sailing)) {
                return -1;
            }
            int carried = 0;
            for (MTicket t : tickets) {
                if (t.is[0] != sailing) {
                    continue;
                }
                switch (t.is[4]) {
                    case 3 -> {
                        carried++;
                        t.is[4] = 6;
                        Arrays.fill(t.is, 6, 9, -1);
                    }
                    case 4 -> {
                        t.is[4] = 5;
                        t.is[11] = t.is[10];
                    }
                    case 0 -> {
                        t.is[4] = 7;
                        t.is[11] = t.is[10] / 2;
                    }
                    default -> throw new IllegalStateException("how " + t.is[4]);
                }
            }
            s.how = 2;
            return carried;
        }

        boolean off(int ticket) {
            if (!isTicket(ticket)) {
                return false;
            }
            int[] is = tickets.get(ticket).is;
            MSailing s = sailings.get(is[0]);
            if (is[4] != 3 || s.recall != -1 || s.ramp == ticket) {
                return false;
            }
            for (MTicket o : tickets) {
                if (o.is[0] == is[0] && o.is[4] == 3 && o.is[6] == is[6] && o.is[7] == is[7]
                        && o.is[8] > is[8]) {
                    return false;
                }
            }
            is[4] = 2;
            Arrays.fill(is, 6, 10, -1);
            return true;
        }

        int shipOf(int ship, int what) {
            if (!isShip(ship) || !in(what, 0, 5)) {
                return -1;
            }
            MShip s = ships.get(ship);
            int itsCabins = 0;
            for (int[] c : cabins) {
                itsCabins += c[0] == ship ? 1 : 0;
            }
            int stand = 0;
            for (MTicket t : tickets) {
                stand += t.is[4] == 3 && sailings.get(t.is[0]).ship == ship ? 1 : 0;
            }
            return new int[] {s.decks, s.lanes, s.length, s.half ? 1 : 0, itsCabins, stand}[what];
        }

        int sailingOf(int sailing, int what) {
            if (!isSailing(sailing) || !in(what, 0, 6)) {
                return -1;
            }
            MSailing s = sailings.get(sailing);
            int its = of(sailing, 0, 1, 2, 3, 4, 5, 6, 7).size();
            return new int[] {s.ship, s.minute, s.line, s.how, s.turns, s.recall, its}[what];
        }

        int ticketOf(int ticket, int what) {
            return isTicket(ticket) && in(what, 0, 12) ? tickets.get(ticket).is[what] : -1;
        }

        boolean isLane(int ship, int deck, int lane) {
            return isShip(ship) && in(deck, 0, ships.get(ship).decks - 1)
                    && in(lane, 0, ships.get(ship).lanes - 1);
        }

        int at(int ship, int deck, int lane, int place) {
            return isLane(ship, deck, lane) && in(place, 0, ships.get(ship).length - 1)
                    ? covers(ship, deck, lane)[place] : -1;
        }

        int lane(int ship, int deck, int lane, int what) {
            if (!isLane(ship, deck, lane) || !in(what, 0, 4)) {
                return -1;
            }
            if (what >= 2) {
                return mayStand(ship, deck, lane, what - 2) ? 1 : 0;
            }
            int free = 0;
            int run = 0;
            int longest = 0;
            for (int c : covers(ship, deck, lane)) {
                free += c < 0 ? 1 : 0;
                run = c < 0 ? run + 1 : 0;
                longest = Math.max(longest, run);
            }
            return what == 0 ? free : longest;
        }

        int log(int i, int what) {
            return in(i, 0, Math.min(log.size(), 3000) - 1) && in(what, 0, 2) ? log.get(i)[what] : -1;
        }

        int count(int what) {
            return in(what, 0, 4) ? new int[] {ships.size(), cabins.size(), sailings.size(), tickets.size(),
                log.size()}[what] : -1;
        }

        int total(int sailing, int what) {
            if (!isSailing(sailing) || !in(what, 0, 3)) {
                return -1;
            }
            int sum = 0;
            for (int t : of(sailing, 3, 6)) {
                int[] is = tickets.get(t).is;
                sum += new int[] {1, is[1], is[9] >= 0 ? is[3] : 0, is[10]}[what];
            }
            return sum;
        }

        long kept() {
            return tickets.stream().mapToLong(t -> t.is[10] - t.is[11]).sum();
        }

        int audit(int ticket, int what, int mask) {
            if (what != 0 && (!isTicket(ticket) || !in(what, 4, 11))) {
                return -2;
            }
            int[][] is = new int[tickets.size()][];
            for (int t = 0; t < is.length; t++) {
                is[t] = tickets.get(t).is.clone();
            }
            if (what != 0) {
                is[ticket][what] ^= mask;
            }
            for (int t = 0; t < is.length; t++) {
                if (!agrees(is, t)) {
                    return t;
                }
            }
            return -1;
        }

        boolean agrees(int[][] is, int n) {
            int[] t = is[n];
            int ship = sailings.get(t[0]).ship;
            int how = t[4];
            boolean on = how == 3;
            if (!in(how, 0, 7) || t[10] < 500) {
                return false;
            }
            if (!on && (t[6] != -1 || t[7] != -1 || t[8] != -1)) {
                return false;
            }
            if (on && (!isLane(ship, t[6], t[7]) || !in(t[8], 0, ships.get(ship).length - 1)
                    || !in((long) t[8] + t[1], 0, ships.get(ship).length))) {
                return false;
            }
            if (t[9] != -1 && (how != 3 && how != 6 || t[3] < 1 || !in(t[9], 0, cabins.size() - 1)
                    || cabins.get(t[9])[0] != ship || cabins.get(t[9])[1] < t[3])) {
                return false;
            }
            for (int m = 0; m < is.length; m++) {
                int[] o = is[m];
                if (m == n || o[0] != t[0]) {
                    continue;
                }
                for (int p = 0; on && o[4] == 3 && o[6] == t[6] && o[7] == t[7] && p < t[1]; p++) {
                    if (in(t[8] + p, o[8], (long) o[8] + o[1] - 1)) {
                        return false;
                    }
                }
                if (t[9] != -1 && (o[4] == 3 || o[4] == 6) && o[9] == t[9]) {
                    return false;
                }
            }
            if ((how >= 1 && how <= 4 || how == 6) && !in(t[5], 0, 200000)) {
                return false;
            }
            if ((how == 0 || how == 7) && t[5] != -1) {
                return false;
            }
            return t[11] == (how == 5 ? t[10] : how == 7 ? t[10] / 2 : 0);
        }
    }

    private static long seen = 0;

    private void same(String call, long got, long want) {
        calls++;
        seen++;
        if (got != want) {
            System.out.println("ModelTest: " + call + " answered " + got + ", due is " + want);
            System.exit(1);
        }
    }

    private static final int[] ODD = {Integer.MIN_VALUE, -1000, -2, -1, 500, 100001, Integer.MAX_VALUE};

    private final Random random;
    private final FerryTerminal x = new FerryTerminal();
    private final Model m = new Model();
    private final boolean crowded;
    private final boolean busy;
    private int calls = 0;

    private ModelTest(int seed) {
        random = new Random(seed);
        crowded = random.nextBoolean();
        busy = random.nextInt(3) == 0;
    }

    /** Mostly a number from low to high, now and then one far off. */
    private int pick(int low, int high) {
        if (random.nextInt(60) == 0) {
            return ODD[random.nextInt(ODD.length)];
        }
        if (random.nextInt(60) == 0) {
            return random.nextBoolean() ? low - 1 : high + 1;
        }
        return high < low ? low : low + random.nextInt(high - low + 1);
    }

    private int aShip() {
        return pick(0, m.ships.size() - 1);
    }

    private int aSailing() {
        int s = pick(0, m.sailings.size() - 1);
        for (int i = 0; i < 3 && m.isSailing(s) && m.sailings.get(s).how > 1; i++) {
            s = pick(0, m.sailings.size() - 1);
        }
        return s;
    }

    private int aTicket(int how) {
        int t = pick(0, m.tickets.size() - 1);
        for (int i = 0; i < 8 && m.isTicket(t) && m.tickets.get(t).is[4] != how; i++) {
            t = pick(0, m.tickets.size() - 1);
        }
        return t;
    }

    private void run() {
        int made = 1 + random.nextInt(3);
        for (int i = 0; i < made; i++) {
            makeShip();
        }
        for (int i = 0; i < 3; i++) {
            makeSailing();
        }
        // Some runs ask all along, some change much and ask at their end.
        int changes = random.nextBoolean() ? CALLS : 150 + random.nextInt(CALLS - 150);
        while (calls < CALLS) {
            if (calls >= changes || random.nextInt(changes < CALLS ? 20 : 3) == 0) {
                ask(random.nextInt(10));
            } else {
                change(random.nextInt(100));
            }
        }
    }

    private void makeShip() {
        int decks = pick(1, crowded ? 2 : 4);
        int lanes = pick(1, crowded ? 3 : 6);
        int length = crowded ? pick(50, 300) : pick(50, 2000);
        boolean half = random.nextBoolean();
        same("ship", x.ship(decks, lanes, length, half), m.ship(decks, lanes, length, half));
    }

    private void makeSailing() {
        int ship = aShip();
        int minute = crowded ? pick(0, 1500) : pick(0, 100000);
        int line = random.nextInt(4) > 0 ? 3 : pick(0, 7);
        same("sailing", x.sailing(ship, minute, line), m.sailing(ship, minute, line));
    }

    private void change(int dice) {
        if (dice < 1) {
            makeShip();
        } else if (dice < 5) {
            int ship = aShip();
            int beds = pick(1, 6);
            same("cabin", x.cabin(ship, beds), m.cabin(ship, beds));
        } else if (dice < 12) {
            makeSailing();
        } else if (dice < 40) {
            int sailing = aSailing();
            int length = crowded ? pick(20, 90) : pick(20, 250);
            int height = pick(0, 2);
            int wish = random.nextBoolean() ? 0 : pick(0, 6);
            same("book", x.book(sailing, length, height, wish), m.book(sailing, length, height, wish));
        } else if (dice < 65) {
            int ticket = aTicket(0);
            int minute = crowded ? pick(0, 1500) : pick(0, 100000);
            same("arrive", x.arrive(ticket, minute) ? 1 : 0, m.arrive(ticket, minute) ? 1 : 0);
        } else if (dice < 72) {
            int sailing = aSailing();
            same("open", x.open(sailing) ? 1 : 0, m.open(sailing) ? 1 : 0);
        } else if (dice < 85) {
            int n = busy ? pick(0, 500) : pick(0, 12);
            same("settle(" + n + ")", x.settle(n), m.settle(n));
        } else if (dice < 92) {
            int ticket = aTicket(3);
            same("off", x.off(ticket) ? 1 : 0, m.off(ticket) ? 1 : 0);
        } else if (dice < 96 || busy) {
            int sailing = aSailing();
            int n = random.nextBoolean() ? pick(0, 6) : pick(0, 1000);
            same("recall", x.recall(sailing, n) ? 1 : 0, m.recall(sailing, n) ? 1 : 0);
        } else {
            int sailing = aSailing();
            same("depart", x.depart(sailing), m.depart(sailing));
        }
    }

    private void ask(int dice) {
        int ship = aShip();
        int sailing = pick(0, m.sailings.size() - 1);
        int ticket = random.nextBoolean() ? pick(0, m.tickets.size() - 1) : aTicket(3);
        int what = pick(0, 12);
        if (dice < 2) {
            same("ticketOf " + what, x.ticketOf(ticket, what), m.ticketOf(ticket, what));
        } else if (dice < 4) {
            int number = pick(4, 11);
            int mask = random.nextInt(4) == 0 ? random.nextInt() : 1 << random.nextInt(9);
            same("audit(" + ticket + ", " + number + ", " + mask + ")", x.audit(ticket, number, mask),
                    m.audit(ticket, number, mask));
        } else if (dice < 5) {
            same("audit(" + ticket + ", 0, 0)", x.audit(ticket, 0, 0), m.audit(ticket, 0, 0));
        } else if (dice < 6) {
            int i = pick(m.log.size() - 30, m.log.size());
            int part = pick(0, 2);
            same("log", x.log(i, part), m.log(i, part));
        } else if (dice < 7) {
            int deck = pick(0, 3);
            int lane = pick(0, 5);
            int part = pick(0, 4);
            same("lane " + part, x.lane(ship, deck, lane, part), m.lane(ship, deck, lane, part));
        } else if (dice < 8) {
            int deck = pick(0, 3);
            int lane = pick(0, 5);
            int place = crowded ? pick(0, 300) : pick(0, 2000);
            same("at", x.at(ship, deck, lane, place), m.at(ship, deck, lane, place));
        } else {
            askCounts(random.nextInt(5), ship, sailing);
        }
    }

    private void askCounts(int dice, int ship, int sailing) {
        int what = pick(0, 6);
        if (dice < 1) {
            same("shipOf " + what, x.shipOf(ship, what), m.shipOf(ship, what));
        } else if (dice < 2) {
            same("sailingOf " + what, x.sailingOf(sailing, what), m.sailingOf(sailing, what));
        } else if (dice < 3) {
            same("count " + what, x.count(what), m.count(what));
        } else if (dice < 4) {
            same("total " + what, x.total(sailing, what), m.total(sailing, what));
        } else {
            same("kept", x.kept(), m.kept());
        }
    }

    public static void main(String[] args) {
        int[] kinds = new int[9];
        int most = 0;
        for (int seed = 0; seed < RUNS; seed++) {
            ModelTest test = new ModelTest(seed);
            test.run();
            for (int[] entry : test.m.log) {
                kinds[entry[0]]++;
            }
            most = Math.max(most, test.m.log.size());
        }
        System.out.println("ModelTest: " + seen + " answers as due; turns of each kind "
                + Arrays.toString(kinds) + ", at most " + most + " in a run");
        for (int kind = 0; kind < kinds.length; kind++) {
            if (kinds[kind] < 1000) {
                System.out.println("ModelTest: too few turns of kind " + kind);
                System.exit(1);
            }
        }
    }
}
