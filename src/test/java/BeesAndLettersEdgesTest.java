import java.util.function.Supplier;

/**
 * The boundary cases of promises 7 to 13 and of the Terms on bees, routes, targets and letters.
 * Each method holds the sentence of the document that stands over it.
 */
final class BeesAndLettersEdgesTest {
    private static final Checks CHECKS = new Checks();

    public static void main(String[] args) {
        routeOfOneDigit();
        routeOfSevenDigits();
        routeWithoutDigits();
        routeOfEightDigits();
        routeWithDigitZero();
        routeOfHousesThatThereAreNot();
        routeNotJoined();
        routeWithAHouseTwice();
        routeByClosedGates();
        routeByTheShortestLane();
        routeByTheSmallestNumber();
        bees6();
        beesBeyond6();
        beeOrderOfExceptions();
        beeAtFirst();
        oathTakesHonour();
        oathTurnsTheBee();
        oathAtAnyPlace();
        oathOfNoBee();
        oathOnALane();
        oathOffTheRoute();
        oathOrderOfExceptions();
        letters20();
        lettersBeyond20();
        letterFromAndToTheSame();
        letterOfNoHouse();
        letterOrderOfExceptions();
        letterWithoutWay();
        bribeWithHonourFive();
        bribeWithHonourFour();
        bribeAtMost20();
        bribeAtLeast0();
        bribeWhateverTarget();
        bribeOfNoBeeOrLetter();
        bribeOnALane();
        bribeForALetterElsewhere();
        bribeForALetterThatDoesNotLie();
        bribeWithThreeLetters();
        bribeOrderOfExceptions();
        beeIsAsked();
        beeIsAskedWrongly();
        beeTellsItsLimits();
        letterIsAsked();
        letterIsAskedWrongly();
        targetIsAsked();
        targetIsAskedWrongly();
        targetFirstOfSeveral();
        targetThatIsNot();
        CHECKS.end("BeesAndLettersEdgesTest");
    }

    /** Eight houses in a row and a bee at the first one: most routes here could be right. */
    private static CourierBees eight() {
        CourierBees town = Towns.row(8, 1);
        town.addBee(0x12);
        return town;
    }

    /** Both calls that take a route refuse this one, whatever else stands. */
    private static void noRoute(String what, Supplier<CourierBees> maker, int... routes) {
        for (int route : routes) {
            String called = what + ": 0x" + Integer.toHexString(route);
            CHECKS.refused(called + " of a new bee", Checks.ARGUMENT, maker,
                    town -> town.addBee(route));
            CHECKS.refused(called + " sworn", Checks.ARGUMENT, maker,
                    town -> town.swear(0, route));
        }
    }

    /** A bee of two houses, behind so many oaths, and five letters that lie at its house. */
    private static CourierBees sworn(int oaths) {
        CourierBees town = Towns.pair(2);
        town.addHouse();
        for (int i = 0; i < oaths; i++) {
            town.swear(0, 0x12);
        }
        for (int i = 0; i < 5; i++) {
            town.write(0, i < 3 ? 1 : 2);
        }
        town.write(1, 0);
        return town;
    }

    // "route is no row of 1 to 7 digits of the base 16, 1 to 14 each": one digit is a row.
    private static void routeOfOneDigit() {
        for (int digit = 1; digit <= 14; digit++) {
            CourierBees town = Towns.row(14, 1);
            int route = digit;
            CHECKS.due("addBee(" + route + ")", 0, () -> town.addBee(route));
            CHECKS.bee("a bee of one house", town, 0, digit - 1, 0, 30, 10, 0, 0, 1, 0, 1);
        }
    }

    // "a row of 1 to 7 digits": seven are a row.
    private static void routeOfSevenDigits() {
        CourierBees town = Towns.row(14, 1);
        CHECKS.due("from the first house", 0, () -> town.addBee(0x1234567));
        CHECKS.due("to the last house", 1, () -> town.addBee(0x89ABCDE));
        CHECKS.due("from the last house", 2, () -> town.addBee(0xEDCBA98));
        CHECKS.bee("from the first house", town, 0, 0, 0, 30, 10, 0, 0, 7, 0, 1);
        CHECKS.bee("to the last house", town, 1, 7, 0, 30, 10, 0, 0, 7, 0, 1);
        CHECKS.bee("from the last house", town, 2, 13, 0, 30, 10, 0, 0, 7, 0, 1);
        town.pass(7);
        CHECKS.bee("turned at the seventh", town, 0, 5, 1, 23, 10, 0, 0, 7, 0, 0);
        CHECKS.bee("turned at the last house", town, 1, 12, 1, 23, 10, 0, 0, 7, 0, 0);
        CHECKS.bee("turned at the house 7", town, 2, 8, 1, 23, 10, 0, 0, 7, 0, 0);
        CHECKS.due("an oath of seven", 7, () -> eight().swear(0, 0x7654321));
    }

    // "a row of 1 to 7 digits": 0 is none, and a number below 0 is none either.
    private static void routeWithoutDigits() {
        noRoute("no digits", BeesAndLettersEdgesTest::eight, 0, -1, -0x12, Integer.MIN_VALUE,
                0x80000012, 0xF0000012, 0xF1234567);
    }

    // "a row of 1 to 7 digits": eight are too many.
    private static void routeOfEightDigits() {
        noRoute("eight digits", BeesAndLettersEdgesTest::eight, 0x12345678, 0x10000000,
                0x10000012, 0x11234567, 0x70000001, Integer.MAX_VALUE);
    }

    // "1 to 14 each": 0 is no digit of a route, wherever it stands.
    private static void routeWithDigitZero() {
        noRoute("a digit 0", BeesAndLettersEdgesTest::eight, 0x10, 0x102, 0x120, 0x1023,
                0x1000000, 0x1234560, 0x1203456);
    }

    // "1 to 14 each .. of houses that there are"
    private static void routeOfHousesThatThereAreNot() {
        noRoute("the house 8 of 8", BeesAndLettersEdgesTest::eight, 0x9, 0x19, 0x89, 0x98, 0x129);
        noRoute("the digit 14 with 8", BeesAndLettersEdgesTest::eight, 0xE, 0x1E, 0xE1);
        noRoute("the digit 15", BeesAndLettersEdgesTest::eight, 0xF, 0x1F, 0xF1, 0xFFFFFFF);
        noRoute("the digit 15 with 14", Towns::full, 0xF, 0xEF, 0xFE, 0xDEF);
        CourierBees thirteen = Towns.row(13, 1);
        CHECKS.due("the digit 14 with 13", Checks.ARGUMENT, () -> thirteen.addBee(0xDE));
        CHECKS.due("the digit 13 with 13", 0, () -> thirteen.addBee(0xCD));
        CourierBees later = Towns.pair(1);
        CHECKS.due("ahead of its house", Checks.ARGUMENT, () -> later.addBee(0x3));
        later.addHouse();
        CHECKS.due("behind its house", 1, () -> later.addBee(0x3));
    }

    // "each joined to the next one by a lane"
    private static void routeNotJoined() {
        noRoute("not joined", BeesAndLettersEdgesTest::eight, 0x13, 0x31, 0x18, 0x124, 0x134,
                0x1245, 0x1234568, 0x2345671);
        noRoute("the house alone", Towns::busy, 0x16, 0x61, 0x126);
    }

    // "and no house twice"
    private static void routeWithAHouseTwice() {
        noRoute("twice in a row", BeesAndLettersEdgesTest::eight, 0x11, 0x112, 0x122, 0x1234566);
        noRoute("to and fro", BeesAndLettersEdgesTest::eight, 0x121, 0x1232, 0x1234565);
        Supplier<CourierBees> ring = () -> {
            CourierBees town = Towns.row(6, 1);
            town.addLane(5, 0, 1);
            town.addBee(0x1);
            return town;
        };
        noRoute("round about", ring, 0x1234561);
        CHECKS.due("nearly round about", 1, () -> ring.get().addBee(0x612345));
    }

    // "each joined to the next one by a lane": its gate is not asked for.
    private static void routeByClosedGates() {
        CourierBees town = Towns.row(2, 1);
        town.setGate(0, 0, 0);
        CHECKS.due("a bee at a closed gate", 0, () -> town.addBee(0x12));
        CHECKS.due("an oath at a closed gate", 7, () -> town.swear(0, 0x12));
    }

    // "by the shortest one": though it has a greater number, and is closed when others are open.
    private static void routeByTheShortestLane() {
        CourierBees town = Towns.of(2);
        town.addLane(0, 1, 2);
        town.addLane(1, 0, 1);
        town.addLane(0, 1, 6);
        town.addBee(0x12);
        town.addBee(0x21);
        town.setGate(1, 1, 24);
        town.pass(1);
        CHECKS.bee("it waits for the shortest", town, 0, 0, 0, 30);
        town.pass(1);
        CHECKS.bee("by the shortest", town, 0, 1, 1, 29);
        CHECKS.bee("by the shortest, back", town, 1, 0, 1, 29);
    }

    // "of several by that with the smallest number"
    private static void routeByTheSmallestNumber() {
        for (int closed = 0; closed < 4; closed++) {
            CourierBees town = Towns.of(2);
            town.addLane(0, 1, 5);
            town.addLane(1, 0, 4);
            town.addLane(0, 1, 4);
            town.addLane(0, 1, 4);
            town.setGate(closed, 0, 0);
            town.addBee(0x12);
            town.pass(1);
            CHECKS.bee("the lane " + closed + " closed", town, 0, closed == 1 ? 0 : 1,
                    closed == 1 ? 0 : 4, closed == 1 ? 30 : 26);
        }
    }

    // "There are at most 6, numbered likewise"
    private static void bees6() {
        CourierBees town = Towns.row(3, 1);
        for (int i = 0; i < 6; i++) {
            int route = i % 3 + 1;
            CHECKS.due("bee " + i, i, () -> town.addBee(route));
            CHECKS.due("bees behind " + i, i + 1, () -> town.count(3));
        }
        for (int i = 0; i < 6; i++) {
            CHECKS.bee("its own house", town, i, i % 3);
        }
    }

    // addBee "Throws IllegalStateException if there are 6"
    private static void beesBeyond6() {
        for (int route : new int[] {0x1, 0x12, 0x7654321, 0xE}) {
            CHECKS.refused("the bee 6", Checks.STATE, Towns::full, town -> town.addBee(route));
        }
    }

    // "If several exceptions apply, the one that is named first is thrown.": addBee
    private static void beeOrderOfExceptions() {
        for (int route : new int[] {0, -1, 0x10, 0x13, 0x11, 0xF, 0x12345678}) {
            CHECKS.refused("the bee 6 by 0x" + Integer.toHexString(route), Checks.ARGUMENT,
                    Towns::full, town -> town.addBee(route));
        }
    }

    // "strength, 0 to 30 (30, at first), honour, 0 to 20 (10, at first)"; "at a house of its route
    // (the first one, at first)"; "towards the end of its route (at first)"
    private static void beeAtFirst() {
        CourierBees town = Towns.busy();
        CHECKS.due("a bee later on", 3, () -> town.addBee(0x543));
        CHECKS.bee("a bee later on", town, 3, 4, 0, 30, 10, 0, 0, 3, 0, 1);
        CHECKS.due("its target", 2, () -> town.target(3, 0));
    }

    // swear: "its honour is 3 less (at least 0)." "Returns its honour then."
    private static void oathTakesHonour() {
        int[][] honours = {{10, 7, 4, 1, 0, 0, 0}, {11, 8, 5, 2, 0, 0}, {12, 9, 6, 3, 0, 0}};
        for (int refusals = 0; refusals < honours.length; refusals++) {
            CourierBees town = sworn(0);
            for (int i = 0; i < refusals; i++) {
                town.bribe(0, 0);
            }
            CHECKS.due("ahead of oaths", honours[refusals][0], () -> town.bee(0, 3));
            for (int i = 1; i < honours[refusals].length; i++) {
                int due = honours[refusals][i];
                CHECKS.due("an oath to " + due, due, () -> town.swear(0, 0x12));
                CHECKS.due("behind an oath to " + due, due, () -> town.bee(0, 3));
            }
        }
    }

    // swear: "it flies towards its end from now on"
    private static void oathTurnsTheBee() {
        CourierBees town = Towns.row(3, 1);
        town.addBee(0x123);
        town.pass(2);
        town.setGate(1, 0, 0);
        town.pass(1);
        CHECKS.bee("back at the closed gate", town, 0, 2, 0, 29, 10, 0, 0, 3, 0, 0);
        town.setGate(1, 0, 24);
        town.swear(0, 0x321);
        CHECKS.bee("towards the end of another route", town, 0, 2, 0, 29, 7, 0, 0, 3, 0, 1);
        town.pass(2);
        CHECKS.bee("on its way to it", town, 0, 0, 1, 27, 7, 0, 0, 3, 0, 1);
    }

    // swear: its house can be any one of the new route, also the last one or the only one.
    private static void oathAtAnyPlace() {
        int[] routes = {0x432, 0x234, 0x123, 0x12, 0x23, 0x2};
        int[] next = {2, 2, 2, 0, 2, 1};
        int[] towardsEnd = {0, 1, 1, 0, 1, 1};
        for (int i = 0; i < routes.length; i++) {
            CourierBees town = Towns.row(4, 1);
            town.addBee(0x2);
            int route = routes[i];
            CHECKS.due("swear(0, 0x" + Integer.toHexString(route), 7, () -> town.swear(0, route));
            CHECKS.bee("where it is", town, 0, 1, 0);
            CHECKS.due("towards the end", 1, () -> town.bee(0, 8));
            town.pass(1);
            CHECKS.bee("where it flies", town, 0, next[i]);
            CHECKS.due("its direction then", towardsEnd[i], () -> town.bee(0, 8));
        }
    }

    // swear "Throws IndexOutOfBoundsException if there is no such bee"
    private static void oathOfNoBee() {
        for (int bee : Checks.outside(0, 2)) {
            CHECKS.refused("an oath of " + bee, Checks.INDEX, Towns::busy,
                    town -> town.swear(bee, 0x3));
        }
        for (int bee : Checks.outside(0, 5)) {
            CHECKS.refused("full: an oath of " + bee, Checks.INDEX, Towns::full,
                    town -> town.swear(bee, 0x9));
        }
        CHECKS.refused("an oath of 0 without bees", Checks.INDEX, () -> Towns.row(2, 1),
                town -> town.swear(0, 0x12));
    }

    // swear "Throws IllegalStateException if it is on a lane": from its first quarter to its last
    private static void oathOnALane() {
        for (int i = 1; i <= 6; i++) {
            int quarters = i;
            Supplier<CourierBees> away = () -> {
                CourierBees town = Towns.pair(6);
                town.pass(quarters);
                return town;
            };
            CHECKS.told("on the lane", 7 - i, away, town -> town.bee(0, 1));
            CHECKS.refused("of the house ahead", Checks.STATE, away, town -> town.swear(0, 0x2));
            CHECKS.refused("of the house behind", Checks.STATE, away, town -> town.swear(0, 0x1));
            CHECKS.refused("the same again", Checks.STATE, away, town -> town.swear(0, 0x12));
        }
    }

    // swear "Throws IllegalStateException if .. the house where it is is not on this route"
    private static void oathOffTheRoute() {
        for (int route : new int[] {0x1, 0x2, 0x12, 0x45, 0x6}) {
            CHECKS.refused("off 0x" + Integer.toHexString(route), Checks.STATE, Towns::busy,
                    town -> town.swear(2, route));
        }
        CHECKS.due("on it, as the last one", 7, () -> Towns.busy().swear(2, 0x123));
        CHECKS.due("on it, as the first one", 7, () -> Towns.busy().swear(2, 0x345));
        CHECKS.refused("off it at rest", Checks.STATE, Towns::busy, town -> town.swear(1, 0x23));
        CHECKS.due("on it at rest", 8, () -> Towns.busy().swear(1, 0x34));
    }

    // "If several exceptions apply, the one that is named first is thrown.": swear
    private static void oathOrderOfExceptions() {
        for (int route : new int[] {0, -1, 0x10, 0x13, 0x11, 0x7, 0x12345678}) {
            String called = "0x" + Integer.toHexString(route);
            CHECKS.refused("no bee, " + called, Checks.INDEX, Towns::busy,
                    town -> town.swear(3, route));
            CHECKS.refused("on a lane, " + called, Checks.ARGUMENT, Towns::busy,
                    town -> town.swear(0, route));
            CHECKS.refused("off it, " + called, Checks.ARGUMENT, Towns::busy,
                    town -> town.swear(2, route));
        }
    }

    // "Letters. There are at most 20, numbered likewise"
    private static void letters20() {
        CourierBees town = Towns.row(3, 1);
        for (int i = 0; i < 20; i++) {
            int to = i % 2 + 1;
            CHECKS.due("letter " + i, i, () -> town.write(0, to));
            CHECKS.due("letters behind " + i, i + 1, () -> town.count(4));
            int letter = i;
            CHECKS.due("its house", to, () -> town.letter(letter, 0));
            CHECKS.letter("new", town, i, 0, -1, -1, 0);
        }
    }

    // write "Throws IllegalStateException if there are 20": those that arrived are letters too.
    private static void lettersBeyond20() {
        CHECKS.refused("the letter 20", Checks.STATE, Towns::full, town -> town.write(0, 1));
        Supplier<CourierBees> delivered = () -> {
            CourierBees town = Towns.pair(1);
            for (int i = 0; i < 20; i++) {
                town.write(0, 1);
            }
            town.pass(14);
            return town;
        };
        CHECKS.told("all have arrived", 20, delivered, town -> town.count(5));
        CHECKS.refused("the letter 20 behind those", Checks.STATE, delivered,
                town -> town.write(0, 1));
    }

    // write "Throws IllegalArgumentException if both are the same"
    private static void letterFromAndToTheSame() {
        for (int i = 0; i < 6; i++) {
            int house = i;
            CHECKS.refused("a letter from and to " + i, Checks.ARGUMENT, Towns::busy,
                    town -> town.write(house, house));
        }
    }

    // write "Throws IndexOutOfBoundsException if there is no such house"
    private static void letterOfNoHouse() {
        for (int house : Checks.outside(0, 5)) {
            CHECKS.refused("a letter from " + house, Checks.INDEX, Towns::busy,
                    town -> town.write(house, 0));
            CHECKS.refused("a letter to " + house, Checks.INDEX, Towns::busy,
                    town -> town.write(0, house));
        }
    }

    // "If several exceptions apply, the one that is named first is thrown.": write
    private static void letterOrderOfExceptions() {
        for (int house : Checks.outside(0, 5)) {
            CHECKS.refused("a letter from and to " + house, Checks.INDEX, Towns::busy,
                    town -> town.write(house, house));
        }
        for (int house : Checks.outside(0, 13)) {
            CHECKS.refused("the letter 20 from " + house, Checks.INDEX, Towns::full,
                    town -> town.write(house, 0));
            CHECKS.refused("the letter 20 to " + house, Checks.INDEX, Towns::full,
                    town -> town.write(0, house));
            CHECKS.refused("the letter 20 from and to " + house, Checks.INDEX, Towns::full,
                    town -> town.write(house, house));
        }
        CHECKS.refused("the letter 20 from and to 3", Checks.ARGUMENT, Towns::full,
                town -> town.write(3, 3));
    }

    // write names no way: a letter can be to a house without one.
    private static void letterWithoutWay() {
        CourierBees town = Towns.busy();
        CHECKS.due("to the house alone", 7, () -> town.write(0, 5));
        CHECKS.due("from the house alone", 8, () -> town.write(5, 0));
    }

    // bribe: "A bee with an honour of 5 or more refuses: its honour is 1 more"
    private static void bribeWithHonourFive() {
        CourierBees five = sworn(0);
        five.bribe(0, 0);
        five.swear(0, 0x12);
        five.swear(0, 0x12);
        CHECKS.due("with honour 5", 0, () -> Checks.bit(five.bribe(0, 0)));
        CHECKS.bee("refused with 5", five, 0, 0, 0, 30, 6, 0);
        CHECKS.letter("refused", five, 0, 0, -1, -1, 0);
        CHECKS.due("with honour 6", 0, () -> Checks.bit(five.bribe(0, 0)));
        CHECKS.bee("refused with 6", five, 0, 0, 0, 30, 7, 0);
    }

    // bribe: "Otherwise it takes the letter: its honour is 1 less"
    private static void bribeWithHonourFour() {
        CourierBees town = sworn(2);
        CHECKS.due("ahead of the bribe", 4, () -> town.bee(0, 3));
        CHECKS.due("with honour 4", 1, () -> Checks.bit(town.bribe(0, 4)));
        CHECKS.bee("bribed with 4", town, 0, 0, 0, 30, 3, 1);
        CHECKS.letter("bribed", town, 4, -1, 0, -1, 1);
        CHECKS.due("carried now", 1, () -> town.count(6));
    }

    // bribe: "its honour is 1 more (at most 20)."
    private static void bribeAtMost20() {
        CourierBees town = sworn(0);
        for (int honour = 11; honour < 24; honour++) {
            CHECKS.due("refused", 0, () -> Checks.bit(town.bribe(0, 0)));
            CHECKS.due("honour then", Math.min(honour, 20), () -> town.bee(0, 3));
        }
    }

    // bribe: "its honour is 1 less (at least 0)."
    private static void bribeAtLeast0() {
        CourierBees town = sworn(3);
        CHECKS.due("with honour 1", 1, () -> Checks.bit(town.bribe(0, 0)));
        CHECKS.bee("with honour 1", town, 0, 0, 0, 30, 0, 1);
        CHECKS.due("with honour 0", 1, () -> Checks.bit(town.bribe(0, 1)));
        CHECKS.bee("with honour 0", town, 0, 0, 0, 30, 0, 2);
        CHECKS.due("with honour 0 again", 1, () -> Checks.bit(town.bribe(0, 2)));
        CHECKS.bee("with honour 0 again", town, 0, 0, 0, 30, 0, 3);
    }

    // bribe: "whatever its target is": this house, another one, or none
    private static void bribeWhateverTarget() {
        CourierBees town = Towns.row(4, 1);
        town.addHouse();
        town.addBee(0x23);
        for (int i = 0; i < 4; i++) {
            town.swear(0, 0x23);
        }
        town.write(1, 0);
        town.write(1, 3);
        town.write(1, 4);
        for (int i = 0; i < 3; i++) {
            int letter = i;
            CHECKS.due("bribe for " + i, 1, () -> Checks.bit(town.bribe(0, letter)));
        }
        town.pass(1);
        CHECKS.letter("the target is here: laid down again", town, 0, 1, -1, -1, 1);
        CHECKS.letter("the target is elsewhere: carried", town, 1, -1, 0, -1, 1);
        CHECKS.letter("no target: carried", town, 2, -1, 0, -1, 1);
    }

    // bribe "Throws IndexOutOfBoundsException if there is no such bee or letter"
    private static void bribeOfNoBeeOrLetter() {
        for (int bee : Checks.outside(0, 2)) {
            CHECKS.refused("a bribe of " + bee, Checks.INDEX, Towns::busy,
                    town -> Checks.bit(town.bribe(bee, 1)));
        }
        for (int letter : Checks.outside(0, 6)) {
            CHECKS.refused("a bribe for " + letter, Checks.INDEX, Towns::busy,
                    town -> Checks.bit(town.bribe(2, letter)));
        }
        for (int letter : Checks.outside(0, 19)) {
            CHECKS.refused("full: a bribe for " + letter, Checks.INDEX, Towns::full,
                    town -> Checks.bit(town.bribe(5, letter)));
        }
        CHECKS.due("they are all there", 0, () -> Checks.bit(Towns.busy().bribe(2, 6)));
    }

    // bribe "Throws IllegalStateException if the bee is on a lane": with any honour
    private static void bribeOnALane() {
        for (int i = 1; i <= 2; i++) {
            int left = i;
            for (int oaths = 0; oaths <= 2; oaths += 2) {
                int sworn = oaths;
                CHECKS.told("quarters to go", left, () -> away(sworn, left), town -> town.bee(0, 1));
                CHECKS.told("it has room", 0, () -> away(sworn, left), town -> town.bee(0, 4));
                CHECKS.refused("for a letter behind it", Checks.STATE, () -> away(sworn, left),
                        town -> Checks.bit(town.bribe(0, 0)));
                CHECKS.refused("for a letter ahead of it", Checks.STATE, () -> away(sworn, left),
                        town -> Checks.bit(town.bribe(0, 1)));
            }
        }
    }

    /** A bee on a lane of 2, with so many oaths and quarters to go; letters without a target. */
    private static CourierBees away(int oaths, int left) {
        CourierBees town = Towns.pair(2);
        town.addHouse();
        town.write(0, 2);
        town.write(1, 2);
        for (int i = 0; i < oaths; i++) {
            town.swear(0, 0x12);
        }
        town.pass(3 - left);
        return town;
    }

    // bribe "Throws IllegalStateException if .. the letter does not lie at its house": elsewhere
    private static void bribeForALetterElsewhere() {
        for (int oaths = 0; oaths <= 4; oaths += 2) {
            int honour = oaths;
            CHECKS.refused("behind " + oaths + " oaths", Checks.STATE, () -> sworn(honour),
                    town -> Checks.bit(town.bribe(0, 5)));
        }
        CHECKS.refused("at the house alone", Checks.STATE, Towns::busy,
                town -> Checks.bit(town.bribe(2, 2)));
    }

    // ".. the letter does not lie at its house": it is carried, or has arrived, at this house
    private static void bribeForALetterThatDoesNotLie() {
        Supplier<CourierBees> carried = () -> {
            CourierBees town = sworn(2);
            town.addBee(0x12);
            town.setGate(0, 0, 0);
            town.swear(1, 0x12);
            town.swear(1, 0x12);
            town.bribe(0, 3);
            return town;
        };
        CHECKS.refused("it carries it", Checks.STATE, carried,
                town -> Checks.bit(town.bribe(0, 3)));
        CHECKS.refused("another one carries it", Checks.STATE, carried,
                town -> Checks.bit(town.bribe(1, 3)));
        CHECKS.due("one that lies there", 1, () -> Checks.bit(carried.get().bribe(1, 4)));
        Supplier<CourierBees> arrived = () -> {
            CourierBees town = Towns.pair(1);
            town.write(0, 1);
            town.pass(1);
            town.setGate(0, 0, 0);
            town.pass(1);
            return town;
        };
        CHECKS.told("it is where the letter arrived", 1, arrived, town -> town.bee(0, 0));
        CHECKS.refused("it has arrived", Checks.STATE, arrived,
                town -> Checks.bit(town.bribe(0, 0)));
    }

    // bribe "Throws IllegalStateException if .. it carries 3": also when it would refuse
    private static void bribeWithThreeLetters() {
        Supplier<CourierBees> bribed = () -> {
            CourierBees town = sworn(2);
            town.bribe(0, 0);
            town.bribe(0, 3);
            return town;
        };
        CHECKS.told("with 2 letters", 2, bribed, town -> town.bee(0, 4));
        CHECKS.due("the third one", 1, () -> Checks.bit(bribed.get().bribe(0, 4)));
        CHECKS.refused("the fourth one", Checks.STATE, () -> {
            CourierBees town = bribed.get();
            town.bribe(0, 4);
            return town;
        }, town -> Checks.bit(town.bribe(0, 1)));
        CHECKS.refused("the fourth one, with honour 10", Checks.STATE, () -> {
            CourierBees town = sworn(0);
            town.setGate(0, 0, 0);
            town.pass(1);
            return town;
        }, town -> Checks.bit(town.bribe(0, 3)));
    }

    // "If several exceptions apply, the one that is named first is thrown.": bribe
    private static void bribeOrderOfExceptions() {
        for (int letter : Checks.outside(0, 6)) {
            CHECKS.refused("on a lane, for " + letter, Checks.INDEX, Towns::busy,
                    town -> Checks.bit(town.bribe(0, letter)));
            CHECKS.refused("no bee, for " + letter, Checks.INDEX, Towns::busy,
                    town -> Checks.bit(town.bribe(3, letter)));
        }
        CHECKS.refused("no bee, for one that lies nowhere", Checks.INDEX, Towns::busy,
                town -> Checks.bit(town.bribe(3, 0)));
        CHECKS.refused("with 3 letters, for none", Checks.INDEX, () -> {
            CourierBees town = sworn(0);
            town.setGate(0, 0, 0);
            town.pass(1);
            return town;
        }, town -> Checks.bit(town.bribe(0, 6)));
    }

    // bee: "what: 0 the house where it is .. 8 1 if it flies towards the end of its route, else 0"
    private static void beeIsAsked() {
        long[] due = {1, 3, 2, 12, 0, 0, 3, 2, 0};
        for (int what = 0; what <= 8; what++) {
            int asked = what;
            CHECKS.told("bee(0, " + what + ")", due[what], Towns::busy,
                    town -> town.bee(0, asked));
        }
    }

    // bee "Throws IndexOutOfBoundsException if there is no such bee, or what is not 0 to 8"
    private static void beeIsAskedWrongly() {
        for (int what : Checks.outside(0, 8)) {
            CHECKS.refused("bee(0, " + what + ")", Checks.INDEX, Towns::busy,
                    town -> town.bee(0, what));
            CHECKS.refused("bee(3, " + what + ")", Checks.INDEX, Towns::busy,
                    town -> town.bee(3, what));
        }
        for (int bee : Checks.outside(0, 2)) {
            CHECKS.refused("bee(" + bee + ", 0)", Checks.INDEX, Towns::busy,
                    town -> town.bee(bee, 0));
            CHECKS.refused("bee(" + bee + ", 8)", Checks.INDEX, Towns::busy,
                    town -> town.bee(bee, 8));
        }
        for (int bee : Checks.outside(0, 5)) {
            CHECKS.refused("full: bee(" + bee + ", 0)", Checks.INDEX, Towns::full,
                    town -> town.bee(bee, 0));
        }
    }

    // "1 the quarters that it has to go on its lane, 0 at a house"; "strength, 0 to 30"
    private static void beeTellsItsLimits() {
        CourierBees town = Towns.pair(6);
        int[] left = {6, 5, 4, 3, 2, 1, 6};
        for (int i = 0; i < left.length; i++) {
            town.pass(1);
            CHECKS.bee("behind quarter " + i, town, 0, i < 6 ? 1 : 0, left[i], i < 6 ? 24 : 18);
        }
        town.pass(18);
        CHECKS.bee("no strength left", town, 0, 1, 6, 0);
        town.pass(6);
        CHECKS.bee("at a house", town, 0, 1, 0, 1);
    }

    // letter: "what: 0 the house to which it is .. 4 how often it was taken by a bee in all"
    private static void letterIsAsked() {
        long[][] due = {{1, -1, -1, 2, 1}, {4, 2, -1, -1, 1}, {0, 5, -1, -1, 0}};
        for (int i = 0; i < due.length; i++) {
            for (int what = 0; what <= 4; what++) {
                int letter = i;
                int asked = what;
                CHECKS.told("letter(" + i + ", " + what + ")", due[i][what], Towns::busy,
                        town -> town.letter(letter, asked));
            }
        }
        CHECKS.told("who carries letter 5", 1, Towns::busy, town -> town.letter(5, 2));
    }

    // letter "Throws IndexOutOfBoundsException if there is no such letter, or what is not 0 to 4"
    private static void letterIsAskedWrongly() {
        for (int what : Checks.outside(0, 4)) {
            CHECKS.refused("letter(0, " + what + ")", Checks.INDEX, Towns::busy,
                    town -> town.letter(0, what));
            CHECKS.refused("letter(7, " + what + ")", Checks.INDEX, Towns::busy,
                    town -> town.letter(7, what));
        }
        for (int letter : Checks.outside(0, 6)) {
            CHECKS.refused("letter(" + letter + ", 0)", Checks.INDEX, Towns::busy,
                    town -> town.letter(letter, 0));
            CHECKS.refused("letter(" + letter + ", 4)", Checks.INDEX, Towns::busy,
                    town -> town.letter(letter, 4));
        }
        for (int letter : Checks.outside(0, 19)) {
            CHECKS.refused("full: letter(" + letter + ", 0)", Checks.INDEX, Towns::full,
                    town -> town.letter(letter, 0));
        }
    }

    // target "Returns the target that a letter to this house has for it"
    private static void targetIsAsked() {
        int[] due = {0, 1, 2, 2, 2, -1};
        for (int i = 0; i < due.length; i++) {
            int house = i;
            CHECKS.told("target(0, " + i + ")", due[i], Towns::busy,
                    town -> town.target(0, house));
        }
    }

    // target "Throws IndexOutOfBoundsException if there is no such bee or house"
    private static void targetIsAskedWrongly() {
        for (int bee : Checks.outside(0, 2)) {
            CHECKS.refused("target(" + bee + ", 0)", Checks.INDEX, Towns::busy,
                    town -> town.target(bee, 0));
            CHECKS.refused("target(" + bee + ", 6)", Checks.INDEX, Towns::busy,
                    town -> town.target(bee, 6));
        }
        for (int house : Checks.outside(0, 5)) {
            CHECKS.refused("target(0, " + house + ")", Checks.INDEX, Towns::busy,
                    town -> town.target(0, house));
        }
        for (int house : Checks.outside(0, 13)) {
            CHECKS.refused("full: target(0, " + house + ")", Checks.INDEX, Towns::full,
                    town -> town.target(0, house));
        }
        CHECKS.refused("target without bees", Checks.INDEX, () -> Towns.row(2, 1),
                town -> town.target(0, 0));
    }

    // "the house of its route with the shortest way to the house of the letter, of several the
    // first one in the row"
    private static void targetFirstOfSeveral() {
        int[] routes = {0x12, 0x21, 0x123, 0x321, 0x214};
        int[] due = {0, 1, 2, 2, 3};
        for (int i = 0; i < routes.length; i++) {
            // House 4 is 5 from the houses 0 and 1, 4 from 2 and 2 from 3.
            CourierBees town = Towns.row(3, 1);
            town.addHouse();
            town.addHouse();
            town.addLane(0, 4, 5);
            town.addLane(1, 4, 5);
            town.addLane(2, 4, 4);
            town.addLane(0, 3, 3);
            town.addLane(3, 4, 2);
            int route = routes[i];
            town.addBee(route);
            CHECKS.due("target of 0x" + Integer.toHexString(route), due[i],
                    () -> town.target(0, 4));
        }
    }

    // "if none of them has a way to it, there is no target: such a letter is neither laid down,
    // nor taken but by a bribe."
    private static void targetThatIsNot() {
        CourierBees town = sworn(2);
        CHECKS.due("no target", -1, () -> town.target(0, 2));
        town.bribe(0, 3);
        for (int i = 0; i < 8; i++) {
            town.pass(1);
            CHECKS.letter("not laid down", town, 3, -1, 0, -1, 1);
            CHECKS.letter("not taken", town, 4, 0, -1, -1, 0);
        }
    }
}
