/** Courier bees of a walled town. */
public final class CourierBees {
    private static final int MAX_HOUSES = 14;
    private static final int MAX_LANES = 24;
    private static final int MAX_LENGTH = 6;
    private static final int MAX_BEES = 6;
    private static final int MAX_ROUTE = 7;
    private static final int MAX_LETTERS = 20;
    private static final int MAX_CARRIED = 3;
    private static final int MAX_STRENGTH = 30;
    private static final int MAX_HONOUR = 20;
    private static final int FIRST_HONOUR = 10;
    private static final int FIRM_HONOUR = 5;
    private static final int OATH_HONOUR = 3;
    private static final int TIRED = 10;
    private static final int RESTED = 20;
    private static final int REST = 3;
    private static final int DAY = 24;
    private static final int MAX_PASS = 240;
    private static final int MAX_ADVISE = 120;
    private static final int COUNTS = 9;
    private static final int BEE_FACTS = 9;
    private static final int LETTER_FACTS = 5;
    private static final int NONE = -1;
    /** Stands for no way: the longest way has 13 lanes of length 6, which are 78. */
    private static final int FAR = 1000;

    private final Town town;
    private final Flight now;
    /** A copy of now, kept for looking ahead, so that now stays as it is. */
    private final Flight ahead;
    /** A route is read here first, since a wrong one must not touch that of a bee. */
    private final Route draft;

    public CourierBees() {
        town = new Town();
        now = new Flight(town);
        ahead = new Flight(town);
        draft = new Route();
    }

    // ---- town

    public int addHouse() throws IllegalStateException {
        if (town.houseCount >= MAX_HOUSES) {
            throw new IllegalStateException("there are 14 houses");
        }
        return town.houseCount++;
    }

    public boolean setHive(int house, boolean hive) throws IndexOutOfBoundsException {
        checkHouse(house);
        boolean before = town.hasHive(house);
        town.hives[house] = hive;
        return before;
    }

    public int addLane(int a, int b, int length)
            throws IndexOutOfBoundsException, IllegalArgumentException, IllegalStateException {
        checkHouse(a);
        checkHouse(b);
        if (a == b || length < 1 || length > MAX_LENGTH) {
            throw new IllegalArgumentException("no lane can be like this");
        }
        if (town.laneCount >= MAX_LANES || now.beeCount > 0) {
            throw new IllegalStateException("there are 24 lanes, or there is a bee");
        }
        return town.join(a, b, length);
    }

    public int setGate(int lane, int from, int till)
            throws IndexOutOfBoundsException, IllegalArgumentException {
        if (!town.hasLane(lane)) {
            throw new IndexOutOfBoundsException("no such lane");
        }
        if (from < 0 || from >= DAY || till < from || till > DAY) {
            throw new IllegalArgumentException("no gate can be open like this");
        }
        Lane gated = town.lanes[lane];
        int before = 100 * gated.from + gated.till;
        gated.from = from;
        gated.till = till;
        return before;
    }

    public int way(int a, int b) throws IndexOutOfBoundsException {
        checkHouse(a);
        checkHouse(b);
        int found = town.wayBetween(a, b);
        return found < FAR ? found : NONE;
    }

    // ---- bees and letters

    public int addBee(int route) throws IllegalArgumentException, IllegalStateException {
        checkRoute(route);
        if (now.beeCount >= MAX_BEES) {
            throw new IllegalStateException("there are 6 bees");
        }
        now.bees[now.beeCount].hatch(draft);
        return now.beeCount++;
    }

    public int swear(int bee, int route)
            throws IndexOutOfBoundsException, IllegalArgumentException, IllegalStateException {
        checkBee(bee);
        checkRoute(route);
        Bee sworn = now.bees[bee];
        int place = draft.placeOf(sworn.house());
        if (sworn.left > 0 || place == NONE) {
            throw new IllegalStateException("the bee is at no house of this route");
        }
        sworn.follow(draft, place);
        sworn.addHonour(-OATH_HONOUR);
        return sworn.honour;
    }

    public int write(int from, int to)
            throws IndexOutOfBoundsException, IllegalArgumentException, IllegalStateException {
        checkHouse(from);
        checkHouse(to);
        if (from == to) {
            throw new IllegalArgumentException("the letter is there already");
        }
        if (now.letterCount >= MAX_LETTERS) {
            throw new IllegalStateException("there are 20 letters");
        }
        now.letters[now.letterCount].begin(from, to);
        return now.letterCount++;
    }

    public boolean bribe(int bee, int letter)
            throws IndexOutOfBoundsException, IllegalStateException {
        checkBee(bee);
        checkLetter(letter);
        Bee bribed = now.bees[bee];
        Letter offered = now.letters[letter];
        if (bribed.left > 0 || offered.lies != bribed.house() || bribed.carries >= MAX_CARRIED) {
            throw new IllegalStateException("the bee can not take this letter now");
        }
        boolean refuses = bribed.honour >= FIRM_HONOUR;
        if (refuses) {
            bribed.addHonour(1);
        } else {
            bribed.take(offered);
            bribed.addHonour(-1);
        }
        return !refuses;
    }

    public int bee(int bee, int what) throws IndexOutOfBoundsException {
        checkBee(bee);
        checkWhat(what, BEE_FACTS);
        return now.bees[bee].tell(what);
    }

    public int letter(int letter, int what) throws IndexOutOfBoundsException {
        checkLetter(letter);
        checkWhat(what, LETTER_FACTS);
        return now.letters[letter].tell(what);
    }

    public int target(int bee, int house) throws IndexOutOfBoundsException {
        checkBee(bee);
        checkHouse(house);
        return now.bees[bee].route.targetFor(house);
    }

    // ---- quarters

    public int pass(int quarters) throws IllegalArgumentException {
        if (quarters < 1 || quarters > MAX_PASS) {
            throw new IllegalArgumentException("quarters are 1 to 240");
        }
        return now.passQuarters(quarters);
    }

    public int count(int what) throws IndexOutOfBoundsException {
        checkWhat(what, COUNTS);
        return tellCount(what);
    }

    // ---- looking ahead

    public int comes(int letter) throws IndexOutOfBoundsException {
        checkLetter(letter);
        ahead.copyFrom(now);
        Letter awaited = ahead.letters[letter];
        for (int behind = 0; behind <= MAX_PASS; behind++) {
            if (awaited.hasArrived()) {
                return behind;
            }
            ahead.passQuarter();
        }
        return NONE;
    }

    public int advise(int quarters) throws IllegalArgumentException {
        if (quarters < 1 || quarters > MAX_ADVISE) {
            throw new IllegalArgumentException("quarters are 1 to 120");
        }
        int best = NONE;
        int most = arrivalsAhead(quarters, NONE);
        for (int lane = 0; lane < town.laneCount; lane++) {
            // A gate that is open always as it is can not make more letters arrive.
            if (!town.lanes[lane].isOpenAlways()) {
                int arrivals = arrivalsAhead(quarters, lane);
                if (arrivals > most) {
                    most = arrivals;
                    best = lane;
                }
            }
        }
        return best;
    }

    public int trusted(int to) throws IndexOutOfBoundsException {
        checkHouse(to);
        int best = NONE;
        int shortest = FAR;
        int honour = 0;
        for (int b = 0; b < now.beeCount; b++) {
            Bee asked = now.bees[b];
            int rest = town.wayBetween(asked.route.targetFor(to), to);
            if (rest < shortest || best != NONE && rest == shortest && asked.honour > honour) {
                best = b;
                shortest = rest;
                honour = asked.honour;
            }
        }
        return best;
    }

    public double mean() {
        if (now.arrivals == 0) {
            return 0;
        }
        long sum = 0;
        for (int i = 0; i < now.letterCount; i++) {
            if (now.letters[i].hasArrived()) {
                sum += now.letters[i].arrivedIn;
            }
        }
        return (double) sum / now.arrivals;
    }

    public long digest() {
        long d = 811;
        for (int what = 0; what < COUNTS; what++) {
            d = d * 31 + tellCount(what);
        }
        d = town.digestFrom(d);
        for (int b = 0; b < now.beeCount; b++) {
            d = now.bees[b].digestFrom(d);
        }
        for (int i = 0; i < now.letterCount; i++) {
            d = now.letters[i].digestFrom(d);
        }
        return d;
    }

    // ---- helpers

    private void checkHouse(int house) {
        if (!town.hasHouse(house)) {
            throw new IndexOutOfBoundsException("no such house");
        }
    }

    private void checkBee(int number) {
        if (number < 0 || number >= now.beeCount) {
            throw new IndexOutOfBoundsException("no such bee");
        }
    }

    private void checkLetter(int number) {
        if (number < 0 || number >= now.letterCount) {
            throw new IndexOutOfBoundsException("no such letter");
        }
    }

    private static void checkWhat(int what, int facts) {
        if (what < 0 || what >= facts) {
            throw new IndexOutOfBoundsException("nothing is told by this number");
        }
    }

    /** Leaves the route in the draft. */
    private void checkRoute(int digits) {
        if (!draft.read(digits, town)) {
            throw new IllegalArgumentException("no such route");
        }
    }

    private int tellCount(int what) {
        switch (what) {
            case 0: return now.quarter;
            case 1: return town.houseCount;
            case 2: return town.laneCount;
            case 3: return now.beeCount;
            case 4: return now.letterCount;
            case 5: return now.arrivals;
            case 6: return now.carriedLetters();
            case 7: return now.restingBees();
            default: return town.openGates(now.quarter);
        }
    }

    private int arrivalsAhead(int quarters, int openLane) {
        ahead.copyFrom(now);
        ahead.openLane = openLane;
        return ahead.passQuarters(quarters);
    }

    /** A lane between two houses, with its gate. */
    private static final class Lane {
        int a;
        int b;
        int length;
        int from;
        int till;

        void build(int oneHouse, int otherHouse, int lengthOfIt) {
            a = oneHouse;
            b = otherHouse;
            length = lengthOfIt;
            from = 0;
            till = DAY;
        }

        boolean joins(int oneHouse, int otherHouse) {
            return a == oneHouse && b == otherHouse || a == otherHouse && b == oneHouse;
        }

        boolean isOpen(int quarter) {
            int hour = quarter % DAY;
            return from <= hour && hour < till;
        }

        boolean isOpenAlways() {
            return from == 0 && till == DAY;
        }
    }

    /** Houses, hives, lanes, gates and ways: all that quarters do not change. */
    private static final class Town {
        int houseCount;
        int laneCount;
        final boolean[] hives;
        final Lane[] lanes;
        private final int[][] ways;

        Town() {
            hives = new boolean[MAX_HOUSES];
            lanes = new Lane[MAX_LANES];
            for (int i = 0; i < MAX_LANES; i++) {
                lanes[i] = new Lane();
            }
            ways = new int[MAX_HOUSES][MAX_HOUSES];
            for (int x = 0; x < MAX_HOUSES; x++) {
                for (int y = 0; y < MAX_HOUSES; y++) {
                    ways[x][y] = x == y ? 0 : FAR;
                }
            }
        }

        boolean hasHouse(int house) {
            return house >= 0 && house < houseCount;
        }

        boolean hasLane(int lane) {
            return lane >= 0 && lane < laneCount;
        }

        boolean hasHive(int house) {
            return hasHouse(house) && hives[house];
        }

        boolean isOpen(int lane, int quarter) {
            return hasLane(lane) && lanes[lane].isOpen(quarter);
        }

        int lengthOf(int lane) {
            return hasLane(lane) ? lanes[lane].length : FAR;
        }

        int wayBetween(int a, int b) {
            return hasHouse(a) && hasHouse(b) ? ways[a][b] : FAR;
        }

        /** The houses and the length are right, and there is room for a lane. */
        int join(int a, int b, int length) {
            lanes[laneCount].build(a, b, length);
            // A shortest way has no lane twice: it is an old one, or uses the new lane once.
            for (int x = 0; x < houseCount; x++) {
                for (int y = 0; y < houseCount; y++) {
                    int byA = ways[x][a] + length + ways[b][y];
                    int byB = ways[x][b] + length + ways[a][y];
                    ways[x][y] = Math.min(ways[x][y], Math.min(byA, byB));
                }
            }
            return laneCount++;
        }

        int shortestLane(int a, int b) {
            int best = NONE;
            for (int i = 0; i < laneCount; i++) {
                if (lanes[i].joins(a, b) && (best == NONE || lanes[i].length < lengthOf(best))) {
                    best = i;
                }
            }
            return best;
        }

        int openGates(int quarter) {
            int open = 0;
            for (int i = 0; i < laneCount; i++) {
                if (lanes[i].isOpen(quarter)) {
                    open++;
                }
            }
            return open;
        }

        long digestFrom(long before) {
            long d = before;
            for (int house = 0; house < houseCount; house++) {
                d = d * 31 + (hives[house] ? 1 : 0);
            }
            for (int i = 0; i < laneCount; i++) {
                d = d * 31 + lanes[i].a;
                d = d * 31 + lanes[i].b;
                d = d * 31 + lanes[i].length;
                d = d * 31 + lanes[i].from;
                d = d * 31 + lanes[i].till;
            }
            return d;
        }
    }

    /**
     * A row of houses. Lanes and targets are found when it is read and hold from then on,
     * since no lane is added where there is a bee.
     */
    private static final class Route {
        private int length;
        private final int[] houses;
        /** The lane from the house at the same place to the next one. */
        private final int[] lanes;
        private final int[] targets;

        Route() {
            houses = new int[MAX_ROUTE];
            lanes = new int[MAX_ROUTE];
            targets = new int[MAX_HOUSES];
        }

        int length() {
            return length;
        }

        int houseAt(int place) {
            return place >= 0 && place < length ? houses[place] : NONE;
        }

        int laneAt(int place) {
            return place >= 0 && place < length ? lanes[place] : NONE;
        }

        int placeOf(int house) {
            for (int i = 0; i < length; i++) {
                if (houses[i] == house) {
                    return i;
                }
            }
            return NONE;
        }

        int targetFor(int house) {
            return house >= 0 && house < MAX_HOUSES ? targets[house] : NONE;
        }

        /** Tells whether the digits are a route; if not, what stands here then is no use. */
        boolean read(int digits, Town town) {
            length = 0;
            if (digits < 1 || digits >= 1 << 4 * MAX_ROUTE) {
                return false;
            }
            for (int place = MAX_ROUTE - 1; place >= 0; place--) {
                int rest = digits >> 4 * place;
                // Zeros ahead of the first digit are no digits of the row.
                if (rest > 0 && !append((rest & 15) - 1, town)) {
                    return false;
                }
            }
            findTargets(town);
            return true;
        }

        private boolean append(int house, Town town) {
            if (!town.hasHouse(house) || placeOf(house) != NONE || length >= MAX_ROUTE) {
                return false;
            }
            if (length > 0) {
                int lane = town.shortestLane(houses[length - 1], house);
                if (lane == NONE) {
                    return false;
                }
                lanes[length - 1] = lane;
            }
            lanes[length] = NONE;
            houses[length] = house;
            length++;
            return true;
        }

        private void findTargets(Town town) {
            for (int to = 0; to < MAX_HOUSES; to++) {
                int shortest = FAR;
                targets[to] = NONE;
                for (int i = 0; i < length; i++) {
                    int rest = town.wayBetween(houses[i], to);
                    if (rest < shortest) {
                        shortest = rest;
                        targets[to] = houses[i];
                    }
                }
            }
        }

        void copyFrom(Route other) {
            length = other.length;
            System.arraycopy(other.houses, 0, houses, 0, MAX_ROUTE);
            System.arraycopy(other.lanes, 0, lanes, 0, MAX_ROUTE);
            System.arraycopy(other.targets, 0, targets, 0, MAX_HOUSES);
        }
    }

    /** A letter; at most one of lies, carrier and arrivedIn is not NONE. */
    private static final class Letter {
        int to;
        int lies;
        int carrier;
        int arrivedIn;
        int taken;

        void begin(int from, int house) {
            to = house;
            lies = from;
            carrier = NONE;
            arrivedIn = NONE;
            taken = 0;
        }

        boolean hasArrived() {
            return arrivedIn != NONE;
        }

        int tell(int what) {
            switch (what) {
                case 0: return to;
                case 1: return lies;
                case 2: return carrier;
                case 3: return arrivedIn;
                default: return taken;
            }
        }

        long digestFrom(long before) {
            long d = before;
            for (int what = 0; what < LETTER_FACTS; what++) {
                d = d * 31 + tell(what);
            }
            return d;
        }

        void copyFrom(Letter other) {
            to = other.to;
            lies = other.lies;
            carrier = other.carrier;
            arrivedIn = other.arrivedIn;
            taken = other.taken;
        }
    }

    /** A bee. */
    private static final class Bee {
        final int number;
        Route route;
        /** The place in the route of the house where it is, or to which it is on its way. */
        private int place;
        int left;
        private int strength;
        int honour;
        int carries;
        boolean rests;
        private int delivered;
        private boolean onward;

        Bee(int numberOfIt) {
            number = numberOfIt;
            route = new Route();
        }

        void hatch(Route sworn) {
            left = 0;
            strength = MAX_STRENGTH;
            honour = FIRST_HONOUR;
            carries = 0;
            rests = false;
            delivered = 0;
            follow(sworn, 0);
        }

        void follow(Route sworn, int placeInIt) {
            route.copyFrom(sworn);
            place = placeInIt;
            onward = true;
        }

        int house() {
            return route.houseAt(place);
        }

        void addHonour(int more) {
            honour = Math.max(0, Math.min(MAX_HONOUR, honour + more));
        }

        private void addStrength(int more) {
            strength = Math.min(MAX_STRENGTH, strength + more);
        }

        void take(Letter letter) {
            letter.lies = NONE;
            letter.carrier = number;
            letter.taken++;
            carries++;
        }

        void layDown(Letter letter) {
            letter.carrier = NONE;
            letter.lies = house();
            carries--;
        }

        void deliver(Letter letter, int quarter) {
            letter.carrier = NONE;
            letter.arrivedIn = quarter;
            carries--;
            delivered++;
            addHonour(1);
        }

        /** Tells whether rest is all that it does in this quarter. */
        boolean restsNow(boolean hive) {
            if (rests) {
                addStrength(REST);
                rests = strength < RESTED;
                return true;
            }
            rests = hive && strength < TIRED;
            return rests;
        }

        void turnAtEnd() {
            int last = onward ? route.length() - 1 : 0;
            if (place == last) {
                onward = !onward;
            }
        }

        int nextLane() {
            return route.laneAt(onward ? place : place - 1);
        }

        void flyOrStay(boolean open, int length) {
            if (open && strength >= length) {
                strength -= length;
                left = length;
                place += onward ? 1 : -1;
            } else {
                addStrength(1);
            }
        }

        int tell(int what) {
            switch (what) {
                case 0: return house();
                case 1: return left;
                case 2: return strength;
                case 3: return honour;
                case 4: return carries;
                case 5: return rests ? 1 : 0;
                case 6: return route.length();
                case 7: return delivered;
                default: return onward ? 1 : 0;
            }
        }

        long digestFrom(long before) {
            long d = before;
            for (int what = 0; what < BEE_FACTS; what++) {
                d = d * 31 + tell(what);
            }
            for (int i = 0; i < route.length(); i++) {
                d = d * 31 + route.houseAt(i);
            }
            return d;
        }

        /** Shares the route, which no quarter changes. */
        void copyFrom(Bee other) {
            route = other.route;
            place = other.place;
            left = other.left;
            strength = other.strength;
            honour = other.honour;
            carries = other.carries;
            rests = other.rests;
            delivered = other.delivered;
            onward = other.onward;
        }
    }

    /** Bees, letters and the quarter: all that quarters change. */
    private static final class Flight {
        private final Town town;
        final Bee[] bees;
        final Letter[] letters;
        int beeCount;
        int letterCount;
        int quarter;
        int arrivals;
        /** The lane whose gate counts as open always, or NONE. */
        int openLane;

        Flight(Town townOfIt) {
            town = townOfIt;
            bees = new Bee[MAX_BEES];
            for (int b = 0; b < MAX_BEES; b++) {
                bees[b] = new Bee(b);
            }
            letters = new Letter[MAX_LETTERS];
            for (int i = 0; i < MAX_LETTERS; i++) {
                letters[i] = new Letter();
            }
            openLane = NONE;
        }

        void copyFrom(Flight other) {
            beeCount = other.beeCount;
            for (int b = 0; b < beeCount; b++) {
                bees[b].copyFrom(other.bees[b]);
            }
            letterCount = other.letterCount;
            for (int i = 0; i < letterCount; i++) {
                letters[i].copyFrom(other.letters[i]);
            }
            quarter = other.quarter;
            arrivals = other.arrivals;
            openLane = other.openLane;
        }

        int carriedLetters() {
            int carried = 0;
            for (int b = 0; b < beeCount; b++) {
                carried += bees[b].carries;
            }
            return carried;
        }

        int restingBees() {
            int resting = 0;
            for (int b = 0; b < beeCount; b++) {
                if (bees[b].rests) {
                    resting++;
                }
            }
            return resting;
        }

        /** Tells how many letters arrive. */
        int passQuarters(int quarters) {
            int before = arrivals;
            for (int q = 0; q < quarters; q++) {
                passQuarter();
            }
            return arrivals - before;
        }

        void passQuarter() {
            for (int b = 0; b < beeCount; b++) {
                Bee bee = bees[b];
                if (bee.left > 0) {
                    bee.left--;
                }
                if (bee.left == 0) {
                    int here = bee.house();
                    handOver(bee, here);
                    collect(bee, here);
                    moveOn(bee, here);
                }
            }
            quarter++;
        }

        private void handOver(Bee bee, int here) {
            for (int i = 0; i < letterCount && bee.carries > 0; i++) {
                Letter carried = letters[i];
                if (carried.carrier == bee.number) {
                    if (carried.to == here) {
                        bee.deliver(carried, quarter);
                        arrivals++;
                    } else if (bee.route.targetFor(carried.to) == here) {
                        bee.layDown(carried);
                    }
                }
            }
        }

        private void collect(Bee bee, int here) {
            for (int i = 0; i < letterCount && bee.carries < MAX_CARRIED; i++) {
                Letter lying = letters[i];
                if (lying.lies == here) {
                    int goal = bee.route.targetFor(lying.to);
                    if (town.wayBetween(goal, lying.to) < town.wayBetween(here, lying.to)) {
                        bee.take(lying);
                    }
                }
            }
        }

        private void moveOn(Bee bee, int here) {
            if (bee.restsNow(town.hasHive(here)) || bee.route.length() <= 1) {
                return;
            }
            bee.turnAtEnd();
            int lane = bee.nextLane();
            bee.flyOrStay(lane == openLane || town.isOpen(lane, quarter), town.lengthOf(lane));
        }
    }
}
