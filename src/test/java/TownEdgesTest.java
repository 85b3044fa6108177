/**
 * The boundary cases of promises 1 to 6 and of the Terms on time, houses, lanes, gates and ways.
 * Each method holds the sentence of the document that stands over it.
 */
final class TownEdgesTest {
    private static final Checks CHECKS = new Checks();

    public static void main(String[] args) {
        calls512();
        timeFromZero();
        dayOf24();
        newTownIsEmpty();
        newTownRefuses();
        newTownLooksAhead();
        townsAreApart();
        busyTown();
        houses14();
        housesBeyond14();
        houseWithoutHive();
        hiveWasThere();
        hiveInEachHouse();
        hiveInNoHouse();
        lanes24();
        lanesBeyond24();
        laneWithABee();
        laneBetweenNoHouses();
        laneToTheSameHouse();
        laneLengths();
        laneOrderOfExceptions();
        laneInBothDirections();
        lanesBetweenTheSameHouses();
        gateAtFirst();
        gateFromAndTill();
        gateNeverOpen();
        gateBefore();
        gateOfNoLane();
        gateOutsideTheDay();
        gateOrderOfExceptions();
        gateWithBees();
        wayToItself();
        wayThatIsNot();
        wayWhateverGates();
        wayLongest();
        wayOfNoHouse();
        CHECKS.end("TownEdgesTest");
    }

    // "An object is used for at most 512 calls after it has been made."
    private static void calls512() {
        CourierBees town = Towns.pair(1);
        int calls = 4;
        for (; calls < 511; calls++) {
            CHECKS.due("the call behind " + calls, 0, () -> town.pass(240));
        }
        CHECKS.due("the call 512", 507 * 240, () -> town.count(0));
    }

    // "Time is told in quarters, from 0": the first quarter is 0, also for a letter's arrival.
    private static void timeFromZero() {
        CourierBees town = Towns.pair(1);
        CHECKS.due("the first quarter", 0, () -> town.count(0));
        town.write(0, 1);
        town.pass(2);
        CHECKS.due("the second quarter is 1", 1, () -> town.letter(0, 3));
        CHECKS.due("two went by", 2, () -> town.count(0));
    }

    // "a day has 24, and the quarter of the day is that by the remainder of 24."
    private static void dayOf24() {
        CourierBees town = Towns.strands(2);
        town.setGate(0, 0, 1);
        town.setGate(1, 0, 23);
        int[] quarters = {0, 1, 22, 23, 24, 25, 46, 47, 48, 239, 240, 241, 24023, 24024};
        int[] open = {2, 1, 1, 0, 2, 1, 1, 0, 2, 0, 2, 1, 0, 2};
        int now = 0;
        for (int i = 0; i < quarters.length; i++) {
            for (; now < quarters[i]; now += Math.min(240, quarters[i] - now)) {
                town.pass(Math.min(240, quarters[i] - now));
            }
            CHECKS.due("gates open in " + now, open[i], () -> town.count(8));
        }
    }

    // "Creates a town without houses, in the quarter 0."
    private static void newTownIsEmpty() {
        CourierBees town = new CourierBees();
        CHECKS.counts("new", town, 0, 0, 0, 0, 0, 0, 0, 0, 0);
        CHECKS.digest("new", town, 0, 0, 0, 0, 0, 0, 0, 0, 0);
        CHECKS.dueMean("new: mean()", 0, town.mean());
        CHECKS.due("the first house", 0, town::addHouse);
    }

    // "Creates a town without houses": there is no house, lane, bee or letter with the number 0.
    private static void newTownRefuses() {
        refusedWhenNew("setHive", Checks.INDEX, town -> Checks.bit(town.setHive(0, true)));
        refusedWhenNew("addLane", Checks.INDEX, town -> town.addLane(0, 0, 0));
        refusedWhenNew("setGate", Checks.INDEX, town -> town.setGate(0, 0, 24));
        refusedWhenNew("way", Checks.INDEX, town -> town.way(0, 0));
        refusedWhenNew("addBee", Checks.ARGUMENT, town -> town.addBee(0x1));
        refusedWhenNew("swear", Checks.INDEX, town -> town.swear(0, 0x1));
        refusedWhenNew("write", Checks.INDEX, town -> town.write(0, 0));
        refusedWhenNew("bribe", Checks.INDEX, town -> Checks.bit(town.bribe(0, 0)));
        refusedWhenNew("bee", Checks.INDEX, town -> town.bee(0, 0));
        refusedWhenNew("letter", Checks.INDEX, town -> town.letter(0, 0));
        refusedWhenNew("target", Checks.INDEX, town -> town.target(0, 0));
        refusedWhenNew("comes", Checks.INDEX, town -> town.comes(0));
        refusedWhenNew("trusted", Checks.INDEX, town -> town.trusted(0));
    }

    private static void refusedWhenNew(String call, String want, Checks.Act act) {
        CHECKS.refused("new: " + call, want, CourierBees::new, act);
    }

    // "Creates a town without houses": quarters go by, and no gate can be advised.
    private static void newTownLooksAhead() {
        CourierBees town = new CourierBees();
        CHECKS.due("new: advise(120)", -1, () -> town.advise(120));
        CHECKS.due("new: pass(240)", 0, () -> town.pass(240));
        CHECKS.counts("240 quarters of nothing", town, 240, 0, 0, 0, 0, 0, 0, 0, 0);
    }

    // "Creates a town": of its own.
    private static void townsAreApart() {
        CourierBees town = new CourierBees();
        CourierBees other = Towns.busy();
        CHECKS.counts("beside another one", town, 0, 0, 0, 0, 0, 0, 0, 0, 0);
        CHECKS.due("its first house", 0, town::addHouse);
        CHECKS.due("no hive but the other one's", 0, () -> Checks.bit(town.setHive(0, true)));
        CHECKS.due("the other one's houses", 6, () -> other.count(1));
        CHECKS.due("the other one's hive", 0, () -> Checks.bit(other.setHive(0, true)));
    }

    /** The towns of many refused calls hold what could be changed. */
    private static void busyTown() {
        CourierBees busy = Towns.busy();
        CHECKS.counts("busy", busy, 26, 6, 4, 3, 7, 3, 1, 1, 3);
        CHECKS.bee("on a lane", busy, 0, 1, 3, 2, 12, 0, 0, 3, 2, 0);
        CHECKS.bee("at rest", busy, 1, 3, 0, 9, 11, 1, 1, 2, 1, 0);
        CHECKS.bee("at its only house", busy, 2, 2, 0, 30, 10, 0, 0, 1, 0, 1);
        CHECKS.letter("handed on", busy, 1, 2, -1, -1, 1);
        CHECKS.letter("carried", busy, 5, -1, 1, -1, 1);
        CourierBees full = Towns.full();
        CHECKS.counts("full", full, 9, 14, 24, 6, 20);
    }

    // "There are at most 14 houses, numbered from 0 in the order of their building"
    private static void houses14() {
        CourierBees town = new CourierBees();
        for (int i = 0; i < 14; i++) {
            CHECKS.due("house " + i, i, town::addHouse);
            CHECKS.due("houses behind " + i, i + 1, () -> town.count(1));
        }
    }

    // addHouse "Throws IllegalStateException if there are 14"
    private static void housesBeyond14() {
        CHECKS.refused("the house 14", Checks.STATE, () -> Towns.of(14), CourierBees::addHouse);
        CHECKS.refused("the house 14, full", Checks.STATE, Towns::full, CourierBees::addHouse);
        CourierBees town = Towns.of(14);
        for (int i = 0; i < 3; i++) {
            CHECKS.due("again and again", Checks.STATE, town::addHouse);
        }
        CHECKS.due("count(1) then", 14, () -> town.count(1));
    }

    // "Returns the number of a new house, without a hive."
    private static void houseWithoutHive() {
        CourierBees town = Towns.busy();
        CHECKS.due("a house with bees about", 6, town::addHouse);
        CHECKS.due("its hive", 0, () -> Checks.bit(town.setHive(6, false)));
        CHECKS.due("its way", -1, () -> town.way(6, 0));
        CourierBees last = Towns.of(14);
        CHECKS.due("the last one's hive", 0, () -> Checks.bit(last.setHive(13, false)));
    }

    // setHive "Returns whether there was."
    private static void hiveWasThere() {
        CourierBees town = Towns.of(2);
        boolean[] set = {false, true, true, false, false, true};
        int[] was = {0, 0, 1, 1, 0, 0};
        for (int i = 0; i < set.length; i++) {
            boolean hive = set[i];
            CHECKS.due("setHive " + i, was[i], () -> Checks.bit(town.setHive(1, hive)));
        }
        CHECKS.due("the other house", 0, () -> Checks.bit(town.setHive(0, false)));
    }

    // "each can have a hive"
    private static void hiveInEachHouse() {
        CourierBees town = Towns.of(14);
        for (int i = 0; i < 14; i++) {
            int house = i;
            CHECKS.due("a hive in " + i, 0, () -> Checks.bit(town.setHive(house, true)));
        }
        CHECKS.digest("14 hives", town, 0, 14, 0, 0, 0, 0, 0, 0, 0,
                1, 1, 1, 1, 1, 1, 1, 1, 1, 1, 1, 1, 1, 1);
    }

    // setHive "Throws IndexOutOfBoundsException if there is no such house"
    private static void hiveInNoHouse() {
        for (int house : Checks.outside(0, 5)) {
            CHECKS.refused("a hive in " + house, Checks.INDEX, Towns::busy,
                    town -> Checks.bit(town.setHive(house, true)));
            CHECKS.refused("no hive in " + house, Checks.INDEX, Towns::busy,
                    town -> Checks.bit(town.setHive(house, false)));
        }
        for (int house : Checks.outside(0, 13)) {
            CHECKS.refused("full: a hive in " + house, Checks.INDEX, Towns::full,
                    town -> Checks.bit(town.setHive(house, true)));
        }
    }

    // "there are at most 24, numbered likewise"
    private static void lanes24() {
        CourierBees town = Towns.of(14);
        for (int i = 0; i < 24; i++) {
            int a = i % 13;
            CHECKS.due("lane " + i, i, () -> town.addLane(a, a + 1, 1));
        }
        CHECKS.due("count(2)", 24, () -> town.count(2));
        CHECKS.due("the gate of the last one", 24, () -> town.setGate(23, 1, 2));
    }

    // addLane "Throws IllegalStateException if there are 24"
    private static void lanesBeyond24() {
        CHECKS.refused("the lane 24", Checks.STATE, () -> Towns.strands(24),
                town -> town.addLane(0, 1, 1));
        CHECKS.refused("the lane 24, backwards", Checks.STATE, () -> Towns.strands(24),
                town -> town.addLane(1, 0, 6));
        CHECKS.refused("the lane 24, and bees", Checks.STATE, Towns::full,
                town -> town.addLane(0, 13, 1));
        CHECKS.told("the lane 23 is none too many: way", 2, () -> Towns.strands(23),
                town -> town.way(0, 1));
        CourierBees town = Towns.strands(23);
        CHECKS.due("the lane 23", 23, () -> town.addLane(0, 1, 1));
        CHECKS.due("way by it", 1, () -> town.way(0, 1));
    }

    // addLane "Throws IllegalStateException if .. there is a bee"
    private static void laneWithABee() {
        CHECKS.refused("a lane with one bee", Checks.STATE, () -> Towns.pair(3),
                town -> town.addLane(0, 1, 1));
        CHECKS.refused("a lane with bees", Checks.STATE, Towns::busy,
                town -> town.addLane(0, 5, 1));
        CourierBees town = Towns.row(2, 3);
        CHECKS.due("a bee that is refused", Checks.ARGUMENT, () -> town.addBee(0x13));
        CHECKS.due("a lane without a bee", 1, () -> town.addLane(0, 1, 1));
    }

    // addLane "Throws IndexOutOfBoundsException if there is no such house"
    private static void laneBetweenNoHouses() {
        for (int house : Checks.outside(0, 3)) {
            CHECKS.refused("a lane from " + house, Checks.INDEX, () -> Towns.row(4, 2),
                    town -> town.addLane(house, 1, 1));
            CHECKS.refused("a lane to " + house, Checks.INDEX, () -> Towns.row(4, 2),
                    town -> town.addLane(1, house, 1));
        }
    }

    // addLane "Throws IllegalArgumentException if both are the same"
    private static void laneToTheSameHouse() {
        for (int i = 0; i < 4; i++) {
            int house = i;
            CHECKS.refused("a lane from and to " + i, Checks.ARGUMENT, () -> Towns.row(4, 2),
                    town -> town.addLane(house, house, 1));
        }
    }

    // addLane "Throws IllegalArgumentException if .. length is not 1 to 6"
    private static void laneLengths() {
        for (int length : Checks.outside(1, 6)) {
            CHECKS.refused("a lane of " + length, Checks.ARGUMENT, () -> Towns.row(4, 2),
                    town -> town.addLane(0, 3, length));
        }
        for (int i = 1; i <= 6; i++) {
            int length = i;
            CourierBees town = Towns.of(2);
            CHECKS.due("a lane of " + i, 0, () -> town.addLane(0, 1, length));
            CHECKS.due("way by a lane of " + i, i, () -> town.way(0, 1));
        }
    }

    // "If several exceptions apply, the one that is named first is thrown.": addLane
    private static void laneOrderOfExceptions() {
        int[][] noHouses = {{2, 2, 1}, {-1, -1, 1}, {2, 0, 0}, {0, 2, 7}, {2, 2, 0}, {0, 2, 1}};
        int[][] wrong = {{1, 1, 1}, {0, 1, 0}, {0, 1, 7}, {0, 0, 7}};
        for (int[] lane : noHouses) {
            laneRefused(Checks.INDEX, lane);
        }
        for (int[] lane : wrong) {
            laneRefused(Checks.ARGUMENT, lane);
        }
    }

    /** Ahead of "there are 24" and ahead of "there is a bee", and without either. */
    private static void laneRefused(String want, int[] lane) {
        String called = "addLane(" + lane[0] + ", " + lane[1] + ", " + lane[2] + ")";
        Checks.Act act = town -> town.addLane(lane[0], lane[1], lane[2]);
        CHECKS.refused(called, want, () -> Towns.row(2, 2), act);
        CHECKS.refused(called + " beyond 24", want, () -> Towns.strands(24), act);
        CHECKS.refused(called + " with a bee", want, () -> Towns.pair(2), act);
    }

    // "Lanes join two different houses, in both directions"
    private static void laneInBothDirections() {
        CourierBees town = Towns.of(2);
        town.addLane(1, 0, 4);
        CHECKS.due("way as told", 4, () -> town.way(1, 0));
        CHECKS.due("way against it", 4, () -> town.way(0, 1));
        CHECKS.due("a route as told", 0, () -> town.addBee(0x21));
        CHECKS.due("a route against it", 1, () -> town.addBee(0x12));
        town.pass(1);
        CHECKS.bee("as told", town, 0, 0, 4, 26);
        CHECKS.bee("against it", town, 1, 1, 4, 26);
    }

    // "there can be several between the same houses."
    private static void lanesBetweenTheSameHouses() {
        CourierBees town = Towns.of(2);
        for (int i = 0; i < 24; i++) {
            int a = i % 2;
            CHECKS.due("lane " + i + " of the same", i, () -> town.addLane(a, 1 - a, 3));
        }
        CHECKS.due("all are open", 24, () -> town.count(8));
    }

    // "A lane has a gate, which is open in a quarter .. (0 and 24, at first: always)."
    private static void gateAtFirst() {
        CourierBees town = Towns.row(2, 1);
        for (int q = 0; q < 49; q++) {
            CHECKS.due("a new gate in " + q, 1, () -> town.count(8));
            town.pass(1);
        }
        CHECKS.due("from and till at first", 24, () -> town.setGate(0, 0, 24));
    }

    // "open in a quarter q of the day, if from <= q and q < till"
    private static void gateFromAndTill() {
        int[][] gates = {{0, 1}, {5, 7}, {12, 13}, {0, 23}, {1, 24}, {22, 24}, {23, 24}, {0, 24}};
        for (int[] gate : gates) {
            CourierBees town = Towns.row(2, 1);
            town.setGate(0, gate[0], gate[1]);
            for (int q = 0; q < 48; q++) {
                boolean open = gate[0] <= q % 24 && q % 24 < gate[1];
                CHECKS.due("a gate from " + gate[0] + " till " + gate[1] + " in " + q,
                        Checks.bit(open), () -> town.count(8));
                town.pass(1);
            }
        }
    }

    // "if from <= q and q < till": with from as till it is never open.
    private static void gateNeverOpen() {
        for (int at = 0; at <= 23; at++) {
            CourierBees town = Towns.pair(1);
            town.setGate(0, at, at);
            town.pass(24 + at);
            CHECKS.due("a gate from and till " + at, 0, () -> town.count(8));
            town.pass(25);
            CHECKS.bee("it holds the bee", town, 0, 0, 0, 30);
        }
    }

    // setGate "Returns 100 * from and till before."
    private static void gateBefore() {
        CourierBees town = Towns.strands(2);
        int[][] gates = {{23, 24}, {0, 0}, {23, 23}, {0, 24}, {7, 19}, {1, 1}};
        int before = 24;
        for (int[] gate : gates) {
            CHECKS.due("ahead of a gate from " + gate[0] + " till " + gate[1], before,
                    () -> town.setGate(1, gate[0], gate[1]));
            before = 100 * gate[0] + gate[1];
        }
        CHECKS.due("the other lane's", 24, () -> town.setGate(0, 3, 4));
    }

    // setGate "Throws IndexOutOfBoundsException if there is no such lane"
    private static void gateOfNoLane() {
        for (int lane : Checks.outside(0, 3)) {
            CHECKS.refused("the gate of " + lane, Checks.INDEX, Towns::busy,
                    town -> town.setGate(lane, 1, 2));
        }
        for (int lane : Checks.outside(0, 23)) {
            CHECKS.refused("full: the gate of " + lane, Checks.INDEX, Towns::full,
                    town -> town.setGate(lane, 1, 2));
        }
        CHECKS.refused("the gate of 0 without lanes", Checks.INDEX, () -> Towns.of(2),
                town -> town.setGate(0, 1, 2));
    }

    // setGate "Throws IllegalArgumentException if from is not 0 to 23, or till is not from to 24"
    private static void gateOutsideTheDay() {
        int[][] wrong = {{-1, 5}, {-1, -1}, {24, 24}, {24, 23}, {25, 24}, {25, 25}, {5, 4}, {1, 0},
            {23, 22}, {0, -1}, {0, 25}, {23, 25}, {Integer.MIN_VALUE, 24},
            {Integer.MAX_VALUE, 24}, {0, Integer.MIN_VALUE}, {0, Integer.MAX_VALUE}};
        for (int[] gate : wrong) {
            CHECKS.refused("a gate from " + gate[0] + " till " + gate[1], Checks.ARGUMENT,
                    Towns::busy, town -> town.setGate(2, gate[0], gate[1]));
        }
        int[][] right = {{0, 0}, {0, 24}, {23, 23}, {23, 24}};
        for (int[] gate : right) {
            CHECKS.due("a gate from " + gate[0] + " till " + gate[1], 820,
                    () -> Towns.busy().setGate(2, gate[0], gate[1]));
        }
    }

    // "If several exceptions apply, the one that is named first is thrown.": setGate
    private static void gateOrderOfExceptions() {
        for (int lane : Checks.outside(0, 3)) {
            CHECKS.refused("the gate of " + lane + " from -1", Checks.INDEX, Towns::busy,
                    town -> town.setGate(lane, -1, 24));
            CHECKS.refused("the gate of " + lane + " till 25", Checks.INDEX, Towns::busy,
                    town -> town.setGate(lane, 0, 25));
            CHECKS.refused("the gate of " + lane + " from 5 till 4", Checks.INDEX, Towns::busy,
                    town -> town.setGate(lane, 5, 4));
        }
    }

    // setGate names no bee: a gate can be set when there are bees, and behind one that is past it.
    private static void gateWithBees() {
        CourierBees town = Towns.pair(2);
        town.pass(1);
        CHECKS.due("behind a bee", 24, () -> town.setGate(0, 0, 0));
        town.pass(2);
        CHECKS.bee("it gets there", town, 0, 1, 0, 29);
    }

    // "The way from a house to another one is the shortest length of lanes": to itself, none.
    private static void wayToItself() {
        for (int i = 0; i < 6; i++) {
            int house = i;
            CHECKS.told("way from and to " + i, 0, Towns::busy, town -> town.way(house, house));
        }
    }

    // way "Returns the way from the one to the other one; -1 if there is none."
    private static void wayThatIsNot() {
        for (int i = 0; i < 5; i++) {
            int house = i;
            CHECKS.told("way to the house alone", -1, Towns::busy, town -> town.way(house, 5));
            CHECKS.told("way from the house alone", -1, Towns::busy, town -> town.way(5, house));
        }
        CourierBees parts = Towns.of(4);
        parts.addLane(0, 1, 6);
        parts.addLane(2, 3, 6);
        CHECKS.due("from part to part", -1, () -> parts.way(1, 2));
        parts.addLane(1, 2, 1);
        CHECKS.due("parts that are joined", 13, () -> parts.way(0, 3));
    }

    // "whatever gates are closed"
    private static void wayWhateverGates() {
        CourierBees town = Towns.strands(2);
        town.setGate(0, 0, 0);
        town.setGate(1, 0, 0);
        CHECKS.due("way by closed gates", 2, () -> town.way(0, 1));
        CourierBees ring = Towns.row(3, 1);
        ring.addLane(0, 2, 6);
        ring.setGate(0, 5, 5);
        CHECKS.due("not round about", 2, () -> ring.way(0, 2));
    }

    // "the shortest length of lanes, one after the other": of 14 houses at most 13 lanes of 6
    private static void wayLongest() {
        CHECKS.told("the longest way", 78, () -> Towns.row(14, 6), town -> town.way(0, 13));
        CHECKS.told("the longest way back", 78, () -> Towns.row(14, 6), town -> town.way(13, 0));
        CourierBees town = Towns.row(14, 6);
        town.addLane(13, 0, 6);
        CHECKS.due("round about", 6, () -> town.way(0, 13));
        CHECKS.due("as far either way", 42, () -> town.way(0, 7));
        CHECKS.due("a bit shorter round about", 36, () -> town.way(0, 8));
    }

    // way "Throws IndexOutOfBoundsException if there is no such house"
    private static void wayOfNoHouse() {
        for (int house : Checks.outside(0, 5)) {
            CHECKS.refused("way from " + house, Checks.INDEX, Towns::busy,
                    town -> town.way(house, 0));
            CHECKS.refused("way to " + house, Checks.INDEX, Towns::busy,
                    town -> town.way(0, house));
            CHECKS.refused("way from and to " + house, Checks.INDEX, Towns::busy,
                    town -> town.way(house, house));
        }
        for (int house : Checks.outside(0, 13)) {
            CHECKS.refused("full: way to " + house, Checks.INDEX, Towns::full,
                    town -> town.way(13, house));
        }
    }
}
