import java.math.BigInteger;
import java.util.function.Supplier;

/**
 * The boundary cases of promises 16 to 20: comes, advise, trusted, mean, digest.
 * Each method holds the sentence of the document that stands over it.
 */
final class LookingAheadEdgesTest {
    private static final Checks CHECKS = new Checks();

    public static void main(String[] args) {
        comesThatHasArrived();
        comesInTheNextQuarter();
        comesAtMost240();
        comesNever();
        comesOfNoLetter();
        comesAsItThenComes();
        adviseOneAndMost();
        adviseWrongly();
        adviseInSoManyQuarters();
        adviseWithinADay();
        adviseSmallestNumber();
        adviseMostLetters();
        adviseNone();
        adviseFewer();
        adviseWhatIsOpenAlways();
        adviseNearlyOpen();
        aheadOfFullRows();
        aheadNothingIsChanged();
        trustedOfNoHouse();
        trustedWithoutBees();
        trustedWithoutWay();
        trustedFarthestWay();
        trustedShortestWay();
        trustedMostHonour();
        trustedSmallestNumber();
        meanOfNone();
        meanOfOne();
        meanOfSeveral();
        digestOfANewTown();
        digestOfHousesAndLanes();
        digestOfBeesAndLetters();
        digestWrapsAround();
        CHECKS.end("LookingAheadEdgesTest");
    }

    /**
     * Gates that are open for a quarter a day let a bee pass a lane a day; a letter along ten
     * lanes waits for the second bee and arrives in the quarter 287.
     */
    private static CourierBees days(int passed) {
        CourierBees town = Towns.row(11, 1);
        for (int lane = 0; lane < 10; lane++) {
            town.setGate(lane, 22, 23);
        }
        town.addBee(0x1234567);
        town.addBee(0x789AB);
        town.write(0, 10);
        for (int q = 0; q < passed; q++) {
            town.pass(1);
        }
        return town;
    }

    // comes: "0 if it has"
    private static void comesThatHasArrived() {
        CHECKS.told("arrived long ago", 0, Towns::busy, town -> town.comes(0));
        CourierBees town = Towns.pair(1);
        town.write(0, 1);
        town.pass(1);
        CHECKS.due("not yet", 1, () -> town.comes(0));
        town.pass(1);
        CHECKS.due("just arrived", 0, () -> town.comes(0));
        town.pass(240);
        CHECKS.due("arrived 240 quarters ago", 0, () -> town.comes(0));
    }

    // comes "Returns behind how many quarters it has arrived": it takes 1 at the least.
    private static void comesInTheNextQuarter() {
        CourierBees town = Towns.pair(6);
        town.write(0, 1);
        for (int left = 7; left >= 1; left--) {
            int due = left;
            CHECKS.due("behind " + due, due, () -> town.comes(0));
            town.pass(1);
        }
        CHECKS.due("behind 0", 0, () -> town.comes(0));
    }

    // comes: "at most 240; -1 if not by then"
    private static void comesAtMost240() {
        CHECKS.told("behind 241 quarters", -1, () -> days(47), town -> town.comes(0));
        CHECKS.told("behind 240 quarters", 240, () -> days(48), town -> town.comes(0));
        CHECKS.told("behind 239 quarters", 239, () -> days(49), town -> town.comes(0));
        CourierBees town = days(48);
        CHECKS.due("239 of them", 0, () -> town.pass(239));
        CHECKS.due("the last one", 1, () -> town.pass(1));
        CHECKS.due("the quarter in which it arrived", 287, () -> town.letter(0, 3));
    }

    // comes: "-1 if not by then (nothing is changed)": without bees, a way, or an open gate
    private static void comesNever() {
        Supplier<CourierBees> withoutBees = () -> {
            CourierBees town = Towns.row(2, 1);
            town.write(0, 1);
            return town;
        };
        CHECKS.told("without bees", -1, withoutBees, town -> town.comes(0));
        CHECKS.told("without a way", -1, Towns::busy, town -> town.comes(2));
        CHECKS.told("without an open gate", -1, () -> Towns.closed(1), town -> town.comes(0));
    }

    // comes "Throws IndexOutOfBoundsException if there is no such letter"
    private static void comesOfNoLetter() {
        for (int letter : Checks.outside(0, 6)) {
            CHECKS.refused("comes(" + letter + ")", Checks.INDEX, Towns::busy,
                    town -> town.comes(letter));
        }
        for (int letter : Checks.outside(0, 19)) {
            CHECKS.refused("full: comes(" + letter + ")", Checks.INDEX, Towns::full,
                    town -> town.comes(letter));
        }
        CHECKS.refused("comes(0) without letters", Checks.INDEX, () -> Towns.pair(1),
                town -> town.comes(0));
    }

    // comes: "if nothing is done": of each letter of a full town, and of bees in all states
    private static void comesAsItThenComes() {
        for (int i = 0; i < 20; i++) {
            comesAsToldBy(Towns.full(), i);
        }
        for (int i = 0; i < 7; i++) {
            comesAsToldBy(Towns.busy(), i);
        }
    }

    private static void comesAsToldBy(CourierBees town, int letter) {
        int begin = town.count(0);
        int quarters = town.comes(letter);
        if (quarters > 0) {
            town.pass(quarters);
            CHECKS.due("letter " + letter + " comes", begin + quarters - 1,
                    () -> town.letter(letter, 3));
        } else if (quarters < 0) {
            town.pass(240);
            CHECKS.due("letter " + letter + " does not come", -1, () -> town.letter(letter, 3));
        }
    }

    // advise: "quarters is not 1 to 120": 1 and 120 are right.
    private static void adviseOneAndMost() {
        CHECKS.told("advise(1)", -1, () -> Towns.closed(0), town -> town.advise(1));
        CHECKS.told("advise(2)", -1, () -> Towns.closed(0), town -> town.advise(2));
        CHECKS.told("advise(3)", 0, () -> Towns.closed(0), town -> town.advise(3));
        CHECKS.told("advise(119)", 0, () -> Towns.closed(0), town -> town.advise(119));
        CHECKS.told("advise(120)", 0, () -> Towns.closed(0), town -> town.advise(120));
    }

    // advise "Throws IllegalArgumentException if quarters is not 1 to 120"
    private static void adviseWrongly() {
        for (int quarters : Checks.outside(1, 120)) {
            CHECKS.refused("advise(" + quarters + ")", Checks.ARGUMENT, Towns::busy,
                    town -> town.advise(quarters));
            CHECKS.refused("advise(" + quarters + ") without houses", Checks.ARGUMENT,
                    CourierBees::new, town -> town.advise(quarters));
        }
        CHECKS.refused("advise(-1)", Checks.ARGUMENT, Towns::full, town -> town.advise(-1));
        CHECKS.refused("advise(240)", Checks.ARGUMENT, Towns::full, town -> town.advise(240));
    }

    /** A row of 7 houses: lane 0 is closed, the others are open for this quarter of each day. */
    private static CourierBees slow(int hour) {
        CourierBees town = Towns.row(7, 1);
        town.setGate(0, 0, 0);
        for (int lane = 1; lane < 6; lane++) {
            town.setGate(lane, hour, hour + 1);
        }
        town.addBee(0x1234567);
        town.write(0, 6);
        return town;
    }

    // advise: "so that the most letters arrive in so many quarters": in the last of them, too
    private static void adviseInSoManyQuarters() {
        CHECKS.told("in the quarter 119 of 120", 0, () -> slow(22), town -> town.advise(120));
        CHECKS.told("in the quarter 119 of 119", -1, () -> slow(22), town -> town.advise(119));
        CHECKS.told("in the quarter 120 of 120", -1, () -> slow(23), town -> town.advise(120));
        CHECKS.told("in the quarter 118 of 119", 0, () -> slow(21), town -> town.advise(119));
        CHECKS.told("in the quarter 118 of 118", -1, () -> slow(21), town -> town.advise(118));
    }

    // advise: "open always from now on": what opens in time anyway is no more.
    private static void adviseWithinADay() {
        CourierBees town = Towns.pair(1);
        town.setGate(0, 20, 22);
        town.write(0, 1);
        CHECKS.due("ahead of its opening", 0, () -> town.advise(21));
        CHECKS.due("behind its opening", -1, () -> town.advise(22));
        town.pass(22);
        town.write(0, 1);
        CHECKS.due("at dusk, till the next opening", 0, () -> town.advise(23));
        CHECKS.due("at dusk, into the next opening", -1, () -> town.advise(24));
    }

    // advise: "of several the one with the smallest number"
    private static void adviseSmallestNumber() {
        CHECKS.told("all of them", 0, () -> Towns.closed(2, 1, 0), town -> town.advise(10));
        CHECKS.told("two of them", 1, () -> Towns.closed(2, 1), town -> town.advise(10));
        CHECKS.told("the others", 0, () -> Towns.closed(2, 0), town -> town.advise(10));
        CHECKS.told("the last one alone", 2, () -> Towns.closed(2), town -> town.advise(10));
    }

    // advise: "so that the most letters arrive"
    private static void adviseMostLetters() {
        CHECKS.told("two by lane 2", 2, () -> Towns.closed(0, 1, 2, 2), town -> town.advise(10));
        CHECKS.told("two by lane 1", 1, () -> Towns.closed(0, 1, 2, 1), town -> town.advise(10));
        CHECKS.told("two by lane 1 and 2", 1, () -> Towns.closed(0, 1, 2, 1, 2),
                town -> town.advise(10));
        Supplier<CourierBees> near = () -> {
            CourierBees town = Towns.of(4);
            town.addLane(0, 1, 6);
            town.addLane(2, 3, 1);
            town.setGate(0, 0, 0);
            town.setGate(1, 0, 0);
            town.addBee(0x12);
            town.addBee(0x34);
            town.write(0, 1);
            town.write(0, 1);
            town.write(2, 3);
            return town;
        };
        CHECKS.told("one that is near", 1, near, town -> town.advise(6));
        CHECKS.told("two that are far", 0, near, town -> town.advise(7));
    }

    // advise: "-1 if no more arrive by any."
    private static void adviseNone() {
        CHECKS.told("no houses", -1, CourierBees::new, town -> town.advise(120));
        CHECKS.told("no lanes", -1, () -> Towns.of(14), town -> town.advise(120));
        CHECKS.told("no bees", -1, () -> Towns.strands(24), town -> town.advise(120));
        CHECKS.told("no letters", -1, () -> Towns.closed(), town -> town.advise(120));
        Supplier<CourierBees> twoGates = () -> {
            CourierBees town = Towns.row(3, 1);
            town.setGate(0, 1, 1);
            town.setGate(1, 1, 1);
            town.addBee(0x123);
            town.write(0, 2);
            return town;
        };
        CHECKS.told("one open gate is not enough", -1, twoGates, town -> town.advise(120));
    }

    // advise: "-1 if no more arrive by any": nor if fewer do. With the gate open the bee is off
    // ahead of the letter, which comes to it in the quarter 1.
    private static void adviseFewer() {
        Supplier<CourierBees> waits = () -> {
            CourierBees town = Towns.of(3);
            town.addLane(0, 1, 6);
            town.addLane(2, 0, 1);
            town.setGate(0, 3, 24);
            town.addBee(0x31);
            town.addBee(0x12);
            town.write(2, 1);
            return town;
        };
        CHECKS.told("the letter comes", 10, waits, town -> town.comes(0));
        CHECKS.told("fewer by the open gate", -1, waits, town -> town.advise(10));
        CHECKS.told("none either way", -1, waits, town -> town.advise(9));
    }

    // advise: what is open always as it is lets no more arrive.
    private static void adviseWhatIsOpenAlways() {
        Supplier<CourierBees> open = () -> {
            CourierBees town = Towns.closed(0, 0, 2);
            town.setGate(0, 0, 24);
            return town;
        };
        CHECKS.told("another one is closed", 2, open, town -> town.advise(10));
        CHECKS.told("none is closed", -1, () -> {
            CourierBees town = open.get();
            town.setGate(2, 0, 24);
            return town;
        }, town -> town.advise(10));
    }

    // advise: "open always": a gate closed for a single quarter of the day is not.
    private static void adviseNearlyOpen() {
        int[][] gates = {{1, 24}, {0, 23}, {5, 24}, {0, 0}, {23, 24}};
        int[] starts = {0, 23, 2, 23, 0};
        for (int i = 0; i < gates.length; i++) {
            CourierBees town = Towns.row(2, 1);
            town.setGate(0, gates[i][0], gates[i][1]);
            if (starts[i] > 0) {
                town.pass(starts[i]);
            }
            town.addBee(0x12);
            town.write(0, 1);
            CHECKS.due("a gate from " + gates[i][0] + " till " + gates[i][1], 0,
                    () -> town.advise(2));
        }
    }

    // 14 houses, 24 lanes, 6 bees and 20 letters: all rows are looked at to their ends.
    private static void aheadOfFullRows() {
        Supplier<CourierBees> full = () -> {
            CourierBees town = Towns.row(14, 1);
            for (int lane = 13; lane < 23; lane++) {
                town.addLane(0, 1, 1);
            }
            town.addLane(0, 13, 1);
            town.setGate(23, 0, 0);
            for (int b = 0; b < 5; b++) {
                town.addBee(0x2);
            }
            town.addBee(0x1E);
            for (int i = 0; i < 19; i++) {
                town.write(12, 2);
            }
            town.write(0, 13);
            return town;
        };
        CHECKS.told("the last lane, bee and letter", 23, full, town -> town.advise(2));
        CHECKS.told("the last letter, closed", -1, full, town -> town.comes(19));
        CHECKS.told("the last bee and house", 5, full, town -> town.trusted(13));
        CHECKS.told("the last letter, open", 2, () -> {
            CourierBees town = full.get();
            town.setGate(23, 0, 24);
            return town;
        }, town -> town.comes(19));
    }

    // comes and advise: "(nothing is changed)": asked again and again, and in any order
    private static void aheadNothingIsChanged() {
        CourierBees town = Towns.closed(0, 1, 1, 2);
        town.setGate(0, 2, 20);
        town.pass(5);
        long before = town.digest();
        for (int round = 0; round < 3; round++) {
            CHECKS.due("advise(50)", 1, () -> town.advise(50));
            CHECKS.due("comes(0)", 0, () -> town.comes(0));
            CHECKS.due("comes(1)", -1, () -> town.comes(1));
            CHECKS.due("trusted(3)", 1, () -> town.trusted(3));
            CHECKS.due("digest()", before, town::digest);
            CHECKS.due("the gate of the advice", 404, () -> town.setGate(1, 4, 4));
        }
        CHECKS.due("the advice opens no gate", 0, () -> town.pass(50));
        for (int i = 0; i < 7; i++) {
            int letter = i;
            int[] due = {0, -1, -1, 0, 0, 11, -1};
            CHECKS.told("busy: comes(" + i + ")", due[i], Towns::busy, t -> t.comes(letter));
        }
        CHECKS.told("full: advise(120)", Towns.full().advise(120), Towns::full,
                t -> t.advise(120));
    }

    // trusted "Throws IndexOutOfBoundsException if there is no such house"
    private static void trustedOfNoHouse() {
        for (int house : Checks.outside(0, 5)) {
            CHECKS.refused("trusted(" + house + ")", Checks.INDEX, Towns::busy,
                    town -> town.trusted(house));
        }
        for (int house : Checks.outside(0, 13)) {
            CHECKS.refused("full: trusted(" + house + ")", Checks.INDEX, Towns::full,
                    town -> town.trusted(house));
        }
    }

    // trusted: "-1 without a bee whose target has a way to it": without any bee
    private static void trustedWithoutBees() {
        for (int i = 0; i < 3; i++) {
            int house = i;
            CHECKS.told("without bees", -1, () -> Towns.row(3, 1), town -> town.trusted(house));
        }
    }

    // trusted: "-1 without a bee whose target has a way to it"
    private static void trustedWithoutWay() {
        CHECKS.told("the house alone", -1, Towns::busy, town -> town.trusted(5));
        CourierBees town = Towns.busy();
        town.addBee(0x6);
        for (int i = 0; i < 4; i++) {
            town.swear(3, 0x6);
        }
        CHECKS.due("the only one with a way, without honour", 3, () -> town.trusted(5));
        CHECKS.due("not for another house", 0, () -> town.trusted(0));
    }

    // "a house without a way to another one is farther from it than each with one."
    private static void trustedFarthestWay() {
        for (int i = 0; i < 2; i++) {
            int along = i;
            int alone = 1 - i;
            CourierBees town = Towns.row(13, 6);
            town.addHouse();
            town.addBee(along == 0 ? 0x1 : 0xE);
            town.addBee(along == 0 ? 0xE : 0x1);
            town.swear(along, 0x1);
            CHECKS.due("12 lanes of 6, and less honour", along, () -> town.trusted(12));
            CHECKS.due("the house alone", alone, () -> town.trusted(13));
        }
        CourierBees longest = Towns.row(14, 6);
        longest.addBee(0x1);
        CHECKS.due("13 lanes of 6", 0, () -> longest.trusted(13));
    }

    // trusted "Returns the bee the target of which has the shortest way to this house"
    private static void trustedShortestWay() {
        CourierBees town = Towns.row(6, 1);
        int[] routes = {0x12, 0x123, 0x32, 0x45, 0x6};
        for (int route : routes) {
            town.addBee(route);
        }
        int[] due = {0, 0, 1, 3, 3, 4};
        for (int i = 0; i < due.length; i++) {
            int house = i;
            CHECKS.due("trusted(" + i + ")", due[i], () -> town.trusted(house));
        }
        town.swear(3, 0x45);
        CHECKS.due("the shortest way ahead of honour", 3, () -> town.trusted(3));
    }

    // trusted: "of several the one with the most honour"
    private static void trustedMostHonour() {
        for (int best = 0; best < 6; best++) {
            CourierBees town = Towns.row(3, 1);
            for (int i = 0; i < 6; i++) {
                town.addBee(0x12);
                if (i != best) {
                    town.swear(i, 0x12);
                }
            }
            int due = best;
            CHECKS.due("the most honour", due, () -> town.trusted(2));
        }
        CourierBees twenty = Towns.pair(1);
        twenty.addBee(0x12);
        twenty.write(0, 1);
        for (int i = 0; i < 10; i++) {
            twenty.bribe(1, 0);
        }
        CHECKS.due("20 is more than 10", 1, () -> twenty.trusted(1));
    }

    // trusted: "of these the one with the smallest number"
    private static void trustedSmallestNumber() {
        CourierBees town = Towns.row(3, 1);
        for (int i = 0; i < 6; i++) {
            town.addBee(0x12);
        }
        for (int i = 0; i < 5; i++) {
            int due = i;
            CHECKS.due("all but " + i, due, () -> town.trusted(2));
            town.swear(i, 0x12);
        }
        CHECKS.due("the last one", 5, () -> town.trusted(2));
        town.swear(5, 0x12);
        CHECKS.due("all alike again", 0, () -> town.trusted(2));
        for (int i = 0; i < 18; i++) {
            town.swear(i % 6, 0x12);
        }
        CHECKS.due("all without honour", 0, () -> town.trusted(2));
    }

    // mean: "0 if none did."
    private static void meanOfNone() {
        CHECKS.dueMean("a new town", 0, new CourierBees().mean());
        CourierBees town = Towns.pair(2);
        town.write(0, 1);
        CHECKS.dueMean("a letter that lies", 0, town.mean());
        town.pass(2);
        CHECKS.dueMean("a letter that is carried", 0, town.mean());
    }

    // mean "Returns the mean quarter in which letters arrived": of one, this quarter
    private static void meanOfOne() {
        CourierBees town = Towns.pair(1);
        town.write(0, 1);
        town.write(1, 0);
        town.pass(2);
        CHECKS.dueMean("one of two", 1, town.mean());
        town.pass(1);
        CHECKS.dueMean("both", 1.5, town.mean());
        town.pass(240);
        CHECKS.dueMean("both, long ago", 1.5, town.mean());
    }

    // mean: "the mean quarter", not cut towards 0
    private static void meanOfSeveral() {
        CourierBees town = Towns.pair(1);
        for (int i = 0; i < 20; i++) {
            town.write(0, 1);
        }
        town.pass(4);
        CHECKS.dueMean("six", (3 * 1 + 3 * 3) / 6.0, town.mean());
        town.pass(240);
        CHECKS.dueMean("twenty", (3 * (1 + 3 + 5 + 7 + 9 + 11) + 2 * 13) / 20.0, town.mean());
        CourierBees thirds = Towns.pair(1);
        thirds.write(0, 1);
        thirds.write(0, 1);
        thirds.write(1, 0);
        thirds.pass(3);
        CHECKS.dueMean("a third", 4 / 3.0, thirds.mean());
        CHECKS.told("the mean changes nothing", 1, () -> Towns.closed(0), t -> (long) t.mean() + 1);
    }

    // digest: "A number d starts with 811": nothing but counts follows in a town without anything.
    private static void digestOfANewTown() {
        CHECKS.digest("new", new CourierBees(), 0, 0, 0, 0, 0, 0, 0, 0, 0);
        CourierBees later = new CourierBees();
        later.pass(240);
        CHECKS.digest("240 quarters later", later, 240, 0, 0, 0, 0, 0, 0, 0, 0);
    }

    // digest: "for each house 1 with a hive, else 0; for each lane its houses, as they were told,
    // its length, from and till of its gate"
    private static void digestOfHousesAndLanes() {
        CourierBees town = Towns.of(3);
        town.setHive(1, true);
        CHECKS.digest("houses", town, 0, 3, 0, 0, 0, 0, 0, 0, 0, 0, 1, 0);
        town.addLane(2, 0, 4);
        town.addLane(0, 1, 6);
        town.setGate(1, 3, 9);
        CHECKS.digest("lanes", town, 0, 3, 2, 0, 0, 0, 0, 0, 1, 0, 1, 0,
                2, 0, 4, 0, 24, 0, 1, 6, 3, 9);
    }

    // digest: "for each bee what bee() tells, in its order, and the houses of its route; for each
    // letter what letter() tells, in its order."
    private static void digestOfBeesAndLetters() {
        CourierBees town = Towns.of(3);
        town.addLane(2, 0, 4);
        town.addLane(0, 1, 6);
        town.addBee(0x312);
        town.swear(0, 0x31);
        town.addBee(0x1);
        town.write(2, 0);
        town.write(1, 2);
        town.pass(3);
        CHECKS.digest("carried", town, 3, 3, 2, 2, 2, 0, 1, 0, 2, 0, 0, 0,
                2, 0, 4, 0, 24, 0, 1, 6, 0, 24,
                0, 2, 26, 7, 1, 0, 2, 0, 1, 2, 0,
                0, 0, 30, 10, 0, 0, 1, 0, 1, 0,
                0, -1, 0, -1, 1, 2, 1, -1, -1, 0);
        town.pass(2);
        CHECKS.digest("arrived", town, 5, 3, 2, 2, 2, 1, 0, 0, 2, 0, 0, 0,
                2, 0, 4, 0, 24, 0, 1, 6, 0, 24,
                2, 4, 22, 8, 0, 0, 2, 1, 0, 2, 0,
                0, 0, 30, 10, 0, 0, 1, 0, 1, 0,
                0, -1, -1, 4, 1, 2, 1, -1, -1, 0);
    }

    // digest: "d becomes d * 31 + x, which wraps around as a 64-bit integer"
    private static void digestWrapsAround() {
        for (int houses = 0; houses <= 14; houses++) {
            BigInteger d = BigInteger.valueOf(811);
            for (int what = 0; what <= 8; what++) {
                d = next(d, what == 1 ? houses : 0);
            }
            for (int i = 0; i < houses; i++) {
                d = next(d, 0);
            }
            long due = d.longValue();
            CourierBees town = Towns.of(houses);
            CHECKS.due("digest() of " + houses + " houses", due, town::digest);
        }
        CHECKS.told("it is asked again", Towns.full().digest(), Towns::full, CourierBees::digest);
    }

    private static BigInteger next(BigInteger d, int x) {
        return d.multiply(BigInteger.valueOf(31)).add(BigInteger.valueOf(x));
    }
}
