import java.util.function.Supplier;

/**
 * The boundary cases of promises 14 and 15 and of the Terms on how a quarter goes.
 * Each method holds the sentence of the document that stands over it.
 */
final class QuartersEdgesTest {
    private static final Checks CHECKS = new Checks();

    public static void main(String[] args) {
        passOneAndMost();
        passWrongly();
        passTellsThoseOfItsQuarters();
        passQuarterByQuarter();
        quarterBehindAllBees();
        letterAtOnePlace();
        laneOfOne();
        laneWithNoneLeft();
        arrivesAheadOfLayingDown();
        arrivesByItsCarrierOnly();
        laidDownAtItsTarget();
        laidDownWithoutTarget();
        takenBehindArrivals();
        takenByNumbers();
        takenTillThree();
        takenForAShorterWay();
        takenWithoutTarget();
        takenAtEachHouse();
        honourAtMost20();
        honourForEachLetter();
        restsWithNine();
        restsNotWithTen();
        restsNotWithoutHive();
        restThreeMore();
        restTill20();
        restAt20();
        restNothingElse();
        restOfOneHouse();
        stayOfOneHouse();
        turnAtTheEnds();
        turnAndStay();
        turnBehindAnOath();
        gateInThisQuarter();
        gateBehindTheBee();
        strengthOfTheLane();
        strengthLessThanTheLane();
        strengthAtMost30();
        beeByBee();
        countIsAsked();
        countIsAskedWrongly();
        CHECKS.end("QuartersEdgesTest");
    }

    private static CourierBees passed(CourierBees town, int quarters) {
        town.pass(quarters);
        return town;
    }

    /** Three houses in a row by lanes of 1, and a letter from the first to the last one. */
    private static CourierBees relay(int... routes) {
        CourierBees town = Towns.row(3, 1);
        for (int route : routes) {
            town.addBee(route);
        }
        town.write(0, 2);
        return town;
    }

    /**
     * A bee that comes to house 1 in the next quarter with this strength, 6 or more: six flights
     * of 4 leave 6, the closed gate gives 1 a quarter, and the last flight takes 1.
     */
    private static CourierBees comesWith(int strength) {
        CourierBees town = Towns.of(3);
        town.addLane(0, 2, 4);
        town.addLane(0, 1, 1);
        town.addBee(0x13);
        town.pass(24);
        town.setGate(0, 0, 0);
        town.pass(strength - 6 + 1);
        town.swear(0, 0x12);
        town.pass(1);
        return town;
    }

    // "quarters is not 1 to 240": 1 and 240 are right.
    private static void passOneAndMost() {
        CourierBees town = Towns.pair(1);
        CHECKS.due("pass(1)", 0, () -> town.pass(1));
        CHECKS.due("behind 1", 1, () -> town.count(0));
        CHECKS.due("pass(240)", 0, () -> town.pass(240));
        CHECKS.due("behind 241", 241, () -> town.count(0));
        CHECKS.due("pass(239)", 0, () -> town.pass(239));
        CHECKS.due("behind 480", 480, () -> town.count(0));
    }

    // pass "Throws IllegalArgumentException if quarters is not 1 to 240"
    private static void passWrongly() {
        for (int quarters : Checks.outside(1, 240)) {
            CHECKS.refused("pass(" + quarters + ")", Checks.ARGUMENT, Towns::busy,
                    town -> town.pass(quarters));
        }
        CHECKS.refused("pass(-1)", Checks.ARGUMENT, Towns::full, town -> town.pass(-1));
    }

    // pass "Returns how many letters arrived in them.": not those ahead of them
    private static void passTellsThoseOfItsQuarters() {
        CourierBees town = Towns.pair(1);
        for (int i = 0; i < 4; i++) {
            town.write(0, 1);
        }
        CHECKS.due("ahead of any", 0, () -> town.pass(1));
        CHECKS.due("three", 3, () -> town.pass(1));
        CHECKS.due("none more", 0, () -> town.pass(1));
        CHECKS.due("one", 1, () -> town.pass(1));
        CHECKS.due("no letter is left", 0, () -> town.pass(240));
        CourierBees all = Towns.pair(1);
        for (int i = 0; i < 20; i++) {
            all.write(0, 1);
        }
        CHECKS.due("13 quarters", 18, () -> all.pass(13));
        CHECKS.due("the last two", 2, () -> all.pass(1));
    }

    // "Lets quarters go by.": so many at once are so many one by one.
    private static void passQuarterByQuarter() {
        CourierBees atOnce = passed(Towns.full(), 240);
        CourierBees oneByOne = Towns.full();
        for (int i = 0; i < 240; i++) {
            oneByOne.pass(1);
        }
        CHECKS.due("240 quarters", atOnce.digest(), oneByOne::digest);
    }

    // "Behind all bees the quarter is 1 greater.": to each bee it is the same quarter.
    private static void quarterBehindAllBees() {
        CourierBees town = Towns.row(2, 1);
        for (int i = 0; i < 6; i++) {
            town.addBee(0x12);
        }
        for (int i = 0; i < 18; i++) {
            town.write(0, 1);
        }
        town.setGate(0, 0, 1);
        CHECKS.due("all of them in the quarter 1", 18, () -> town.pass(2));
        for (int b = 0; b < 6; b++) {
            CHECKS.letter("by bee " + b, town, 3 * b, -1, -1, 1, 1);
            CHECKS.bee("by the gate of the quarter 0, not of 1", town, b, 1, 0, 30);
        }
        CHECKS.due("the quarter then", 2, () -> town.count(0));
    }

    // "each is to a house, and lies at a house, or is carried by a bee, or has arrived": one of
    // these; and "It carries at most 3 letters."
    private static void letterAtOnePlace() {
        for (int quarters = 1; quarters < 60; quarters += 11) {
            CourierBees town = passed(Towns.full(), quarters);
            int carried = 0;
            int arrived = 0;
            for (int i = 0; i < 20; i++) {
                int places = 0;
                for (int what = 1; what <= 3; what++) {
                    places += town.letter(i, what) >= 0 ? 1 : 0;
                }
                CHECKS.same("places of letter " + i, "1", String.valueOf(places));
                carried += town.letter(i, 2) >= 0 ? 1 : 0;
                arrived += town.letter(i, 3) >= 0 ? 1 : 0;
            }
            CHECKS.due("letters that arrived", arrived, () -> town.count(5));
            CHECKS.due("letters that are carried", carried, () -> town.count(6));
            int byBees = 0;
            for (int b = 0; b < 6; b++) {
                byBees += town.bee(b, 4);
                CHECKS.same("at most 3", "true", String.valueOf(town.bee(b, 4) <= 3));
            }
            CHECKS.same("carried by bees", String.valueOf(carried), String.valueOf(byBees));
        }
    }

    // "A bee on a lane has a quarter less to go": one of 1 is at its end in the next quarter.
    private static void laneOfOne() {
        CourierBees town = Towns.pair(1);
        town.pass(1);
        CHECKS.bee("off", town, 0, 1, 1, 29);
        town.setGate(0, 0, 0);
        town.pass(1);
        CHECKS.bee("at its end", town, 0, 1, 0, 30);
    }

    // "with none left it is at the house at its end": and goes on in the same quarter.
    private static void laneWithNoneLeft() {
        CourierBees town = Towns.row(3, 6);
        town.addBee(0x123);
        town.write(1, 2);
        town.pass(6);
        CHECKS.bee("one left", town, 0, 1, 1, 24);
        CHECKS.letter("it is not there yet", town, 0, 1, -1, -1, 0);
        town.pass(1);
        CHECKS.bee("none left, and off again", town, 0, 2, 6, 18);
        CHECKS.letter("it was there", town, 0, -1, 0, -1, 1);
    }

    // "each letter that it carries arrives, if this is the house of it, and is laid down here, if
    // this is its target, otherwise": its own house is its target too.
    private static void arrivesAheadOfLayingDown() {
        CourierBees town = relay(0x123);
        town.write(0, 1);
        CHECKS.due("the first end", 1, () -> town.pass(2));
        CHECKS.letter("arrived on the way", town, 1, -1, -1, 1, 1);
        CHECKS.letter("carried on", town, 0, -1, 0, -1, 1);
        CHECKS.due("the second end", 1, () -> town.pass(1));
        CHECKS.letter("arrived at the end", town, 0, -1, -1, 2, 1);
        CHECKS.due("none is carried", 0, () -> town.count(6));
    }

    // "each letter that it carries": not what another bee carries to this house
    private static void arrivesByItsCarrierOnly() {
        CourierBees town = Towns.row(3, 1);
        town.addBee(0x12);
        town.addBee(0x32);
        town.setGate(0, 0, 0);
        for (int i = 0; i < 2; i++) {
            town.write(0, 1);
            town.write(2, 1);
        }
        CHECKS.due("two of four arrive", 2, () -> town.pass(2));
        CHECKS.letter("at the closed gate", town, 0, -1, 0, -1, 1);
        CHECKS.letter("at the open gate", town, 1, -1, -1, 1, 1);
        CHECKS.bee("without any", town, 0, 0, 0, 30, 10, 2, 0, 2, 0);
        CHECKS.bee("with both of its own", town, 1, 2, 1, 28, 12, 0, 0, 2, 2);
    }

    // "is laid down here, if this is its target, otherwise"
    private static void laidDownAtItsTarget() {
        CourierBees town = relay(0x12);
        town.pass(1);
        CHECKS.letter("on the lane", town, 0, -1, 0, -1, 1);
        CHECKS.due("no letter arrives", 0, () -> town.pass(1));
        CHECKS.letter("at the target", town, 0, 1, -1, -1, 1);
        CHECKS.bee("no honour for it", town, 0, 0, 1, 28, 10, 0, 0, 2, 0, 0);
        town.pass(20);
        CHECKS.letter("there it lies", town, 0, 1, -1, -1, 1);
    }

    // "such a letter is neither laid down": at each house of the route, while others are
    private static void laidDownWithoutTarget() {
        CourierBees town = relay(0x12);
        town.addHouse();
        town.write(0, 3);
        for (int i = 0; i < 2; i++) {
            town.swear(0, 0x12);
        }
        CHECKS.due("bribed", 1, () -> Checks.bit(town.bribe(0, 1)));
        town.pass(2);
        CHECKS.letter("with a target", town, 0, 1, -1, -1, 1);
        CHECKS.letter("without one", town, 1, -1, 0, -1, 1);
        town.pass(240);
        CHECKS.letter("without one, long after", town, 1, -1, 0, -1, 1);
    }

    // "Then it takes letters": behind those that arrive or are laid down, in the same quarter.
    private static void takenBehindArrivals() {
        CourierBees town = Towns.pair(1);
        for (int i = 0; i < 3; i++) {
            town.write(0, 1);
            town.write(1, 0);
        }
        town.pass(2);
        for (int i = 0; i < 3; i++) {
            CHECKS.letter("it made room", town, 2 * i, -1, -1, 1, 1);
            CHECKS.letter("it takes the room", town, 2 * i + 1, -1, 0, -1, 1);
        }
        CHECKS.bee("three again", town, 0, 0, 1, 28, 13, 3, 0, 2, 3, 0);
    }

    // "it takes letters that lie here, by numbers": whenever and wherever they were written
    private static void takenByNumbers() {
        CourierBees town = relay(0x12, 0x32);
        for (int i = 1; i <= 3; i++) {
            town.write(1, 2);
        }
        town.pass(2);
        CHECKS.letter("the last to come, the first by number", town, 0, -1, 1, -1, 2);
        CHECKS.letter("the second by number", town, 1, -1, 1, -1, 1);
        CHECKS.letter("the third by number", town, 2, -1, 1, -1, 1);
        CHECKS.letter("one too many", town, 3, 1, -1, -1, 0);
    }

    // "as long as it carries fewer than 3": a third one, but no fourth one
    private static void takenTillThree() {
        for (int letters = 1; letters <= 5; letters++) {
            CourierBees town = Towns.pair(2);
            for (int i = 0; i < letters; i++) {
                town.write(0, 1);
            }
            town.pass(1);
            int due = Math.min(3, letters);
            CHECKS.due("of " + letters, due, () -> town.bee(0, 4));
            CHECKS.due("carried of " + letters, due, () -> town.count(6));
            CHECKS.letter("the last one of " + letters, town, letters - 1, letters > 3 ? 0 : -1,
                    letters > 3 ? -1 : 0, -1, letters > 3 ? 0 : 1);
        }
    }

    // "those whose target has a shorter way to the house of the letter than this house": not as far
    private static void takenForAShorterWay() {
        // From house 3 it is 2 to the houses 0 and 1, and 1 to house 2.
        CourierBees town = Towns.row(3, 1);
        town.addHouse();
        town.addLane(0, 3, 2);
        town.addLane(2, 3, 1);
        town.addBee(0x12);
        town.addBee(0x21);
        town.write(0, 3);
        town.write(1, 3);
        town.pass(1);
        CHECKS.letter("as far from the target, that is here", town, 0, 0, -1, -1, 0);
        CHECKS.letter("as far from the target, 1 itself", town, 1, 1, -1, -1, 0);
        town.pass(1);
        CHECKS.letter("as far from the target of bee 1", town, 0, 0, -1, -1, 0);
        CHECKS.letter("as far from the target of bee 0", town, 1, 1, -1, -1, 0);
        CourierBees nearer = Towns.row(3, 1);
        nearer.addBee(0x12);
        nearer.write(0, 2);
        nearer.pass(1);
        CHECKS.letter("nearer by 1", nearer, 0, -1, 0, -1, 1);
    }

    // "nor taken but by a bribe": without a target, also behind letters that have one
    private static void takenWithoutTarget() {
        CourierBees town = Towns.pair(1);
        town.addHouse();
        town.write(0, 2);
        town.write(0, 1);
        town.write(1, 2);
        town.pass(1);
        CHECKS.letter("no target", town, 0, 0, -1, -1, 0);
        CHECKS.letter("a target", town, 1, -1, 0, -1, 1);
        town.pass(240);
        CHECKS.letter("no target, long after", town, 0, 0, -1, -1, 0);
        CHECKS.letter("no target, at the other house", town, 2, 1, -1, -1, 0);
    }

    // "A bee at a house": also one that rests, stays at a gate, or has but one house, takes letters
    // and hands them over.
    private static void takenAtEachHouse() {
        CourierBees rests = comesWith(9);
        rests.setHive(1, true);
        rests.pass(1);
        rests.write(1, 0);
        rests.pass(1);
        CHECKS.bee("at rest", rests, 0, 1, 0, 12, 7, 1, 1);
        CHECKS.letter("taken at rest", rests, 0, -1, 0, -1, 1);
        rests.swear(0, 0x2);
        rests.pass(1);
        CHECKS.bee("at rest still", rests, 0, 1, 0, 15, 4, 0, 1);
        CHECKS.letter("laid down at rest", rests, 0, 1, -1, -1, 1);
        CourierBees stays = Towns.pair(1);
        stays.setGate(0, 0, 0);
        stays.pass(3);
        stays.write(0, 1);
        stays.pass(1);
        CHECKS.letter("taken at the gate", stays, 0, -1, 0, -1, 1);
        stays.swear(0, 0x1);
        stays.pass(1);
        CHECKS.letter("laid down by a bee of one house", stays, 0, 0, -1, -1, 1);
    }

    // "For each letter that arrives its honour is 1 more (at most 20)."
    private static void honourAtMost20() {
        CourierBees town = Towns.pair(1);
        for (int i = 0; i < 15; i++) {
            town.write(0, 1);
        }
        int[] honours = {10, 13, 13, 16, 16, 19, 19, 20, 20, 20};
        for (int q = 0; q < honours.length; q++) {
            town.pass(1);
            CHECKS.due("behind quarter " + q, honours[q], () -> town.bee(0, 3));
        }
        CHECKS.bee("15 arrived for 10 of honour", town, 0, 0, 1, 20, 20, 0, 0, 2, 15, 0);
    }

    // "For each letter that arrives": one is 1, two are 2, none is none.
    private static void honourForEachLetter() {
        for (int i = 0; i <= 3; i++) {
            CourierBees town = Towns.pair(1);
            for (int n = 0; n < i; n++) {
                town.write(0, 1);
            }
            int arrived = i;
            CHECKS.due(i + " arrive", arrived, () -> town.pass(2));
            CHECKS.due("honour for " + i, 10 + arrived, () -> town.bee(0, 3));
            CHECKS.due("in all by it", arrived, () -> town.bee(0, 7));
            CHECKS.due("in all", arrived, () -> town.count(5));
        }
    }

    // "If there is a hive, and its strength is less than 10, it rests from now on; nothing else."
    private static void restsWithNine() {
        for (int i = 6; i <= 9; i++) {
            CourierBees town = comesWith(i);
            town.setHive(1, true);
            town.pass(1);
            CHECKS.bee("at the hive with " + i, town, 0, 1, 0, i, 7, 0, 1, 2, 0, 1);
            CHECKS.due("bees that rest", 1, () -> town.count(7));
        }
    }

    // ".. its strength is less than 10": with 10 it does not rest.
    private static void restsNotWithTen() {
        for (int i = 10; i <= 12; i++) {
            CourierBees town = comesWith(i);
            town.setHive(1, true);
            town.pass(1);
            CHECKS.bee("at the hive with " + i, town, 0, 0, 1, i - 1, 7, 0, 0, 2, 0, 0);
            CHECKS.due("bees that rest", 0, () -> town.count(7));
        }
    }

    // "If there is a hive": at this house, not at another one
    private static void restsNotWithoutHive() {
        CourierBees town = comesWith(9);
        town.setHive(0, true);
        town.setHive(2, true);
        town.pass(1);
        CHECKS.bee("no hive here", town, 0, 0, 1, 8, 7, 0, 0);
        town.setHive(0, false);
        town.pass(1);
        CHECKS.bee("no hive any more", town, 0, 1, 1, 7, 7, 0, 0);
    }

    /** A bee that rests at house 1, with this strength when it begins. */
    private static CourierBees resting(int strength) {
        CourierBees town = comesWith(strength);
        town.setHive(1, true);
        town.pass(1);
        return town;
    }

    // "if it rests, it has 3 more of strength": in each quarter behind that in which it began
    private static void restThreeMore() {
        CourierBees town = resting(6);
        int[] strengths = {9, 12, 15, 18};
        for (int due : strengths) {
            town.pass(1);
            CHECKS.bee("to " + due, town, 0, 1, 0, due, 7, 0, 1);
        }
        CourierBees without = resting(6);
        without.setHive(1, false);
        without.pass(4);
        CHECKS.bee("the hive is gone", without, 0, 1, 0, 18, 7, 0, 1);
    }

    // "and rests no more with 20 or more": with 19 it does.
    private static void restTill20() {
        CourierBees nineteen = resting(7);
        nineteen.pass(4);
        CHECKS.bee("with 19", nineteen, 0, 1, 0, 19, 7, 0, 1);
        nineteen.pass(1);
        CHECKS.bee("with 22", nineteen, 0, 1, 0, 22, 7, 0, 0);
    }

    // "rests no more with 20 or more"
    private static void restAt20() {
        CourierBees twenty = resting(8);
        twenty.pass(4);
        CHECKS.bee("with 20", twenty, 0, 1, 0, 20, 7, 0, 0);
        CourierBees more = resting(9);
        more.pass(4);
        CHECKS.bee("with 21", more, 0, 1, 0, 21, 7, 0, 0);
    }

    // "nothing else": neither turn nor flight in the quarters in which a rest begins and ends
    private static void restNothingElse() {
        CourierBees town = comesWith(8);
        town.setHive(1, true);
        for (int q = 0; q < 5; q++) {
            town.pass(1);
            CHECKS.bee("quarter " + q + " of rest", town, 0, 1, 0, 8 + 3 * q);
            CHECKS.due("not turned", 1, () -> town.bee(0, 8));
        }
        town.pass(1);
        CHECKS.bee("then it turns and flies", town, 0, 0, 1, 19, 7, 0, 0, 2, 0, 0);
    }

    // "If there is a hive, and its strength is less than 10" is asked ahead of "A bee with a route
    // of one house stays."
    private static void restOfOneHouse() {
        CourierBees town = comesWith(8);
        town.setGate(1, 0, 0);
        town.pass(1);
        town.swear(0, 0x2);
        town.setHive(1, true);
        town.pass(1);
        CHECKS.bee("it rests", town, 0, 1, 0, 9, 4, 0, 1, 1, 0, 1);
        CourierBees resting = resting(8);
        resting.swear(0, 0x2);
        CHECKS.bee("an oath at rest", resting, 0, 1, 0, 8, 4, 0, 1, 1, 0, 1);
        resting.pass(1);
        CHECKS.bee("it goes on with its rest", resting, 0, 1, 0, 11, 4, 0, 1, 1, 0, 1);
    }

    // "A bee with a route of one house stays.": without a turn, and with no more of strength
    private static void stayOfOneHouse() {
        CourierBees town = Towns.row(2, 1);
        town.addBee(0x1);
        town.pass(240);
        CHECKS.bee("with 30", town, 0, 0, 0, 30, 10, 0, 0, 1, 0, 1);
        CourierBees tired = Towns.pair(6);
        tired.pass(24);
        tired.setGate(0, 0, 0);
        tired.pass(1);
        CHECKS.bee("stays at the gate", tired, 0, 0, 0, 7, 10, 0, 0, 2, 0, 1);
        tired.swear(0, 0x1);
        tired.pass(240);
        CHECKS.bee("with 7", tired, 0, 0, 0, 7, 7, 0, 0, 1, 0, 1);
        tired.setHive(0, true);
        tired.pass(1);
        CHECKS.bee("at a hive", tired, 0, 0, 0, 7, 7, 0, 1, 1, 0, 1);
        tired.pass(5);
        CHECKS.bee("rested", tired, 0, 0, 0, 22, 7, 0, 0, 1, 0, 1);
        tired.pass(5);
        CHECKS.bee("stays again", tired, 0, 0, 0, 22, 7, 0, 0, 1, 0, 1);
    }

    // "at the last house in its direction, it turns": not ahead of it
    private static void turnAtTheEnds() {
        CourierBees town = Towns.row(4, 1);
        town.addBee(0x1234);
        int[] next = {1, 2, 3, 2, 1, 0, 1, 2};
        int[] towardsEnd = {1, 1, 1, 0, 0, 0, 1, 1};
        for (int q = 0; q < next.length; q++) {
            town.pass(1);
            CHECKS.bee("quarter " + q, town, 0, next[q], 1, 29 - q);
            CHECKS.due("direction in " + q, towardsEnd[q], () -> town.bee(0, 8));
        }
    }

    // "it turns. If the gate of the lane to the next house is closed": it has turned then, once.
    private static void turnAndStay() {
        CourierBees town = Towns.row(3, 1);
        town.addBee(0x123);
        town.pass(2);
        town.setGate(1, 0, 0);
        for (int i = 0; i < 5; i++) {
            town.pass(1);
            CHECKS.bee("at the closed gate", town, 0, 2, 0, Math.min(30, 29 + i));
            CHECKS.due("its direction", 0, () -> town.bee(0, 8));
        }
        town.setGate(1, 0, 24);
        town.pass(1);
        CHECKS.bee("back", town, 0, 1, 1, 29);
    }

    // "at the last house in its direction, it turns": an oath can begin at the last house.
    private static void turnBehindAnOath() {
        CourierBees town = Towns.row(3, 1);
        town.addBee(0x3);
        town.swear(0, 0x123);
        CHECKS.due("towards its end, at it", 1, () -> town.bee(0, 8));
        town.pass(1);
        CHECKS.bee("turned and off", town, 0, 1, 1, 29, 7, 0, 0, 3, 0, 0);
    }

    // "If the gate of the lane to the next house is closed in this quarter of the day"
    private static void gateInThisQuarter() {
        CourierBees town = Towns.pair(1);
        town.setGate(0, 5, 7);
        town.pass(5);
        CHECKS.bee("ahead of from", town, 0, 0, 0, 30);
        town.pass(1);
        CHECKS.bee("in from", town, 0, 1, 1, 29);
        town.pass(1);
        CHECKS.bee("ahead of till", town, 0, 0, 1, 28);
        town.pass(1);
        CHECKS.bee("in till", town, 0, 0, 0, 29);
        town.pass(21);
        CHECKS.bee("ahead of from, a day later", town, 0, 0, 0, 30);
        town.pass(1);
        CHECKS.bee("in from, a day later", town, 0, 1, 1, 29);
    }

    // "otherwise it is on this lane": the gate is asked at its beginning only.
    private static void gateBehindTheBee() {
        CourierBees town = Towns.row(3, 3);
        town.setGate(0, 0, 1);
        town.setGate(1, 3, 4);
        town.addBee(0x123);
        town.pass(3);
        CHECKS.bee("on the lane behind a closed gate", town, 0, 1, 1, 27);
        town.pass(1);
        CHECKS.bee("on the next one, just open", town, 0, 2, 3, 24);
    }

    // "its strength is less than the length of the lane": as much is enough, and leaves 0.
    private static void strengthOfTheLane() {
        CourierBees town = Towns.pair(6);
        town.pass(24);
        CHECKS.bee("as much as the lane is long", town, 0, 0, 1, 6);
        town.pass(1);
        CHECKS.bee("off with all of it", town, 0, 1, 6, 0);
        town.pass(12);
        CHECKS.bee("off again with all of it", town, 0, 0, 6, 0);
    }

    // "its strength is less than the length of the lane, it stays, and has 1 more of strength"
    private static void strengthLessThanTheLane() {
        CourierBees town = Towns.pair(6);
        town.pass(30);
        CHECKS.bee("one left", town, 0, 1, 1, 0);
        for (int has = 1; has <= 6; has++) {
            town.pass(1);
            CHECKS.bee("with " + has, town, 0, 1, 0, has);
            CHECKS.due("turned", 0, () -> town.bee(0, 8));
        }
        town.pass(1);
        CHECKS.bee("off", town, 0, 0, 6, 0);
    }

    // "it stays, and has 1 more of strength (at most 30)"
    private static void strengthAtMost30() {
        CourierBees town = Towns.pair(2);
        town.pass(1);
        town.setGate(0, 0, 0);
        int[] strengths = {28, 29, 30, 30, 30};
        for (int due : strengths) {
            town.pass(1);
            CHECKS.due("strength", due, () -> town.bee(0, 2));
        }
        town.pass(240);
        CHECKS.due("strength, long after", 30, () -> town.bee(0, 2));
    }

    // "A quarter goes like this, bee by bee": by their numbers
    private static void beeByBee() {
        CourierBees first = relay(0x12, 0x23);
        first.setGate(1, 1, 24);
        first.pass(2);
        CHECKS.letter("laid down and taken in one quarter", first, 0, -1, 1, -1, 2);
        CourierBees second = relay(0x23, 0x12);
        second.setGate(1, 1, 24);
        second.pass(2);
        CHECKS.letter("laid down when the other one is off", second, 0, 1, -1, -1, 1);
        CourierBees both = Towns.row(2, 1);
        both.addBee(0x12);
        both.addBee(0x12);
        both.write(0, 1);
        both.pass(1);
        CHECKS.letter("the smaller number takes it", both, 0, -1, 0, -1, 1);
    }

    // count: "what: 0 the quarter .. 8 gates that are open in this quarter"
    private static void countIsAsked() {
        long[] busy = {26, 6, 4, 3, 7, 3, 1, 1, 3};
        long[] full = {9, 14, 24, 6, 20};
        for (int what = 0; what <= 8; what++) {
            int asked = what;
            CHECKS.told("busy: count(" + what + ")", busy[what], Towns::busy,
                    town -> town.count(asked));
        }
        for (int what = 0; what < full.length; what++) {
            int asked = what;
            CHECKS.told("full: count(" + what + ")", full[what], Towns::full,
                    town -> town.count(asked));
        }
    }

    // count "Throws IndexOutOfBoundsException if what is not 0 to 8"
    private static void countIsAskedWrongly() {
        Supplier<CourierBees> empty = CourierBees::new;
        for (int what : Checks.outside(0, 8)) {
            CHECKS.refused("busy: count(" + what + ")", Checks.INDEX, Towns::busy,
                    town -> town.count(what));
            CHECKS.refused("empty: count(" + what + ")", Checks.INDEX, empty,
                    town -> town.count(what));
        }
    }
}
