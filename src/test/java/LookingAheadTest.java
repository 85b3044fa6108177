/** Promises 16 to 20: comes, advise, trusted, mean, digest. */
final class LookingAheadTest {
    private static final Checks CHECKS = new Checks();

    public static void main(String[] args) {
        wrongCalls();
        comesSoon();
        comesInTheLastQuarter();
        advice();
        adviceWithinItsQuarters();
        adviceOverADay();
        adviceForNearlyOpenGates();
        comesFromWhereBeesAre();
        noAdvice();
        nothingIsChanged();
        fullTown();
        trustByWay();
        trustByHonour();
        trustWithoutWay();
        means();
        digests();
        CHECKS.end("LookingAheadTest");
    }

    private static void wrongCalls() {
        CourierBees town = QuartersTest.row(3);
        CHECKS.refused("comes(0) without letters", Checks.INDEX, town, () -> town.comes(0));
        town.addBee(0x12);
        town.write(0, 1);
        for (int letter : new int[] {-1, 1, 20, Integer.MIN_VALUE, Integer.MAX_VALUE}) {
            CHECKS.refused("comes(" + letter + ")", Checks.INDEX, town, () -> town.comes(letter));
        }
        for (int quarters : new int[] {0, -1, 121, Integer.MIN_VALUE, Integer.MAX_VALUE}) {
            CHECKS.refused("advise(" + quarters + ")", Checks.ARGUMENT, town,
                    () -> town.advise(quarters));
        }
        for (int house : new int[] {-1, 3, 14, Integer.MIN_VALUE, Integer.MAX_VALUE}) {
            CHECKS.refused("trusted(" + house + ")", Checks.INDEX, town,
                    () -> town.trusted(house));
        }
    }

    private static void comesSoon() {
        CourierBees town = QuartersTest.row(3);
        town.addHouse();
        town.addBee(0x12);
        town.addBee(0x23);
        town.write(0, 2);
        town.write(0, 3);
        town.write(0, 1);
        CHECKS.due("handed on: comes(0)", 4, () -> town.comes(0));
        CHECKS.due("without a way: comes(1)", -1, () -> town.comes(1));
        CHECKS.due("comes(2)", 2, () -> town.comes(2));
        town.pass(1);
        CHECKS.due("carried: comes(2)", 1, () -> town.comes(2));
        town.pass(1);
        CHECKS.due("arrived: comes(2)", 0, () -> town.comes(2));
        CHECKS.due("on its way: comes(0)", 2, () -> town.comes(0));
        town.pass(240);
        CHECKS.due("arrived long ago: comes(0)", 0, () -> town.comes(0));
    }

    /**
     * Gates that are open for a quarter a day let a bee pass a lane a day; a letter along ten
     * lanes waits for the second bee and arrives in the quarter 287.
     */
    private static void comesInTheLastQuarter() {
        CourierBees town = QuartersTest.row(11);
        for (int lane = 0; lane < 10; lane++) {
            town.setGate(lane, 22, 23);
        }
        town.addBee(0x1234567);
        town.addBee(0x789AB);
        town.write(0, 10);
        town.pass(47);
        CHECKS.due("behind 241 quarters", -1, () -> town.comes(0));
        town.pass(1);
        CHECKS.due("behind 240 quarters", 240, () -> town.comes(0));
        town.pass(1);
        CHECKS.due("behind 239 quarters", 239, () -> town.comes(0));
        CHECKS.due("238 of them", 0, () -> town.pass(238));
        CHECKS.due("behind the next one", 1, () -> town.comes(0));
        CHECKS.due("the next one", 1, () -> town.pass(1));
        CHECKS.due("the quarter in which it arrived", 287, () -> town.letter(0, 3));
    }

    /** Bees on the lanes 0 - 1, 2 - 3 and 4 - 5, each of which is closed. */
    private static CourierBees closedTown(int... letters) {
        CourierBees town = TownTest.townOf(6);
        for (int i = 0; i < 3; i++) {
            town.addLane(2 * i, 2 * i + 1, 2);
            town.setGate(i, 4, 4);
        }
        town.addBee(0x12);
        town.addBee(0x34);
        town.addBee(0x56);
        for (int lane : letters) {
            town.write(2 * lane, 2 * lane + 1);
        }
        return town;
    }

    private static void advice() {
        CHECKS.due("the one with a letter", 1, () -> closedTown(1).advise(10));
        CHECKS.due("the smallest number", 0, () -> closedTown(2, 1, 0).advise(10));
        CHECKS.due("the smallest number of those", 1, () -> closedTown(2, 1).advise(10));
        CHECKS.due("the most letters", 2, () -> closedTown(0, 1, 2, 2).advise(10));
        CHECKS.due("no letters", -1, () -> closedTown().advise(10));
        CourierBees open = closedTown(0, 2);
        open.setGate(0, 0, 24);
        CHECKS.due("one is open already", 2, () -> open.advise(10));
        open.setGate(2, 0, 24);
        CHECKS.due("both are open already", -1, () -> open.advise(10));
        CourierBees town = closedTown(0, 1, 1);
        CHECKS.due("ahead of it", 1, () -> town.advise(120));
        town.setGate(1, 0, 24);
        town.pass(3);
        CHECKS.due("what arrived does not count", 0, () -> town.advise(120));
    }

    private static void adviceWithinItsQuarters() {
        CourierBees town = closedTown(2);
        CHECKS.due("advise(1)", -1, () -> town.advise(1));
        CHECKS.due("advise(2)", -1, () -> town.advise(2));
        CHECKS.due("advise(3)", 2, () -> town.advise(3));
        CHECKS.due("advise(120)", 2, () -> town.advise(120));
        // Another way round is what decides: three of one lane need longer than two.
        CourierBees more = closedTown(0, 1, 1, 1, 1);
        CHECKS.due("three at once", 1, () -> more.advise(3));
        CourierBees far = TownTest.townOf(4);
        far.addLane(0, 1, 6);
        far.addLane(2, 3, 1);
        far.setGate(0, 0, 0);
        far.setGate(1, 0, 0);
        far.addBee(0x12);
        far.addBee(0x34);
        far.write(0, 1);
        far.write(0, 1);
        far.write(2, 3);
        CHECKS.due("the near one", 1, () -> far.advise(6));
        CHECKS.due("the far ones", 0, () -> far.advise(7));
    }

    /** From one quarter on till midnight, or from midnight on, is not always. */
    private static void adviceForNearlyOpenGates() {
        int[][] gates = {{1, 24}, {5, 24}, {0, 23}, {0, 0}};
        int[] starts = {0, 2, 23, 23};
        for (int i = 0; i < gates.length; i++) {
            CourierBees town = TownTest.townOf(2);
            town.addLane(0, 1, 1);
            town.setGate(0, gates[i][0], gates[i][1]);
            town.addBee(0x12);
            if (starts[i] > 0) {
                town.swear(0, 0x1);
                town.pass(starts[i]);
                town.swear(0, 0x12);
            }
            town.write(0, 1);
            CHECKS.due("a gate from " + gates[i][0] + " till " + gates[i][1], 0,
                    () -> town.advise(2));
        }
    }

    /** Looking ahead starts anew each time, from bees on lanes and bees at rest. */
    private static void comesFromWhereBeesAre() {
        CourierBees town = TownTest.townOf(2);
        town.addLane(0, 1, 6);
        town.addBee(0x12);
        town.write(1, 0);
        CHECKS.due("from the beginning", 13, () -> town.comes(0));
        town.pass(1);
        CHECKS.due("on the lane", 12, () -> town.comes(0));
        CHECKS.due("on the lane, once more", 12, () -> town.comes(0));
        town.pass(3);
        CHECKS.due("further on the lane", 9, () -> town.comes(0));
        CHECKS.due("till its end", 1, () -> town.pass(9));
        town.pass(11);
        town.setHive(0, true);
        town.write(0, 1);
        CHECKS.due("ahead of its rest", 1 + 5 + 1 + 6, () -> town.comes(1));
        town.pass(2);
        CHECKS.due("at rest", 4 + 1 + 6, () -> town.comes(1));
        CHECKS.due("at rest, once more", 4 + 1 + 6, () -> town.comes(1));
        town.pass(4);
        CHECKS.due("rested", 1 + 6, () -> town.comes(1));
        CHECKS.due("it comes then", 1, () -> town.pass(7));
    }

    /** A gate that opens later anyway holds up only as long as the quarters end before. */
    private static void adviceOverADay() {
        CourierBees town = TownTest.townOf(2);
        town.addLane(0, 1, 1);
        town.setGate(0, 20, 22);
        town.addBee(0x12);
        town.write(0, 1);
        CHECKS.due("ahead of its opening", 0, () -> town.advise(21));
        CHECKS.due("behind its opening", -1, () -> town.advise(22));
        town.pass(22);
        town.write(0, 1);
        CHECKS.due("behind dusk", 0, () -> town.advise(23));
        CHECKS.due("into the next day", -1, () -> town.advise(24));
    }

    private static void noAdvice() {
        CourierBees empty = new CourierBees();
        CHECKS.due("without lanes", -1, () -> empty.advise(120));
        CourierBees town = QuartersTest.row(3);
        CHECKS.due("without bees", -1, () -> town.advise(120));
        town.addBee(0x123);
        town.write(0, 2);
        CHECKS.due("no gate holds up", -1, () -> town.advise(120));
        CourierBees two = QuartersTest.row(3);
        two.setGate(0, 1, 1);
        two.setGate(1, 1, 1);
        two.addBee(0x123);
        two.write(0, 2);
        CHECKS.due("one open gate is not enough", -1, () -> two.advise(120));
    }

    private static void nothingIsChanged() {
        CourierBees town = closedTown(0, 1, 1, 2);
        town.setGate(0, 2, 20);
        town.pass(5);
        long before = town.digest();
        for (int round = 0; round < 2; round++) {
            CHECKS.due("comes(0)", 0, () -> town.comes(0));
            CHECKS.due("comes(1)", -1, () -> town.comes(1));
            CHECKS.due("advise(50)", 1, () -> town.advise(50));
            CHECKS.due("comes(3) behind an advice", -1, () -> town.comes(3));
            CHECKS.due("trusted(3)", 1, () -> town.trusted(3));
            CHECKS.due("digest() behind looking ahead", before, town::digest);
            CHECKS.due("target(1, 3) behind looking ahead", 3, () -> town.target(1, 3));
        }
        CHECKS.due("the advice does not open a gate", 0, () -> town.pass(50));
        CHECKS.due("nor does it for comes", -1, () -> town.comes(1));
    }

    /** 14 houses, 24 lanes, 6 bees and 20 letters: all rows are used to their ends. */
    private static void fullTown() {
        CourierBees town = QuartersTest.row(14);
        for (int lane = 13; lane < 24; lane++) {
            town.addLane(12, 13, 2);
        }
        for (int lane = 0; lane < 24; lane++) {
            town.setGate(lane, 0, lane == 12 ? 0 : 23);
        }
        for (int b = 0; b < 6; b++) {
            town.addBee(0xDE);
        }
        for (int i = 0; i < 20; i++) {
            town.write(12, 13);
        }
        CHECKS.due("advise(2)", 12, () -> town.advise(2));
        CHECKS.due("comes(19)", -1, () -> town.comes(19));
        CHECKS.due("count(8)", 23, () -> town.count(8));
        CHECKS.due("trusted(13)", 0, () -> town.trusted(13));
        CHECKS.due("closed", 0, () -> town.pass(120));
        town.setGate(12, 0, 24);
        CHECKS.due("comes(19), open", 4, () -> town.comes(19));
        CHECKS.due("18 and 2 of 20", 20, () -> town.pass(4));
        CHECKS.dueMean("18 and 2 of 20", (18 * 121 + 2 * 123) / 20.0, town.mean());
        CHECKS.due("count(5)", 20, () -> town.count(5));
    }

    private static void trustByWay() {
        CourierBees town = QuartersTest.row(5);
        town.addBee(0x12);
        town.addBee(0x123);
        town.addBee(0x32);
        CHECKS.due("trusted(4)", 1, () -> town.trusted(4));
        CHECKS.due("trusted(0)", 0, () -> town.trusted(0));
        CHECKS.due("trusted(1)", 0, () -> town.trusted(1));
        town.addBee(0x45);
        CHECKS.due("trusted(4) with a nearer one", 3, () -> town.trusted(4));
        CHECKS.due("trusted(3) with a nearer one", 3, () -> town.trusted(3));
    }

    private static void trustByHonour() {
        CourierBees town = QuartersTest.row(3);
        town.addBee(0x12);
        town.addBee(0x12);
        town.addBee(0x12);
        CHECKS.due("all the same", 0, () -> town.trusted(2));
        town.swear(0, 0x12);
        CHECKS.due("the most honour, smallest number", 1, () -> town.trusted(2));
        town.swear(1, 0x12);
        CHECKS.due("the most honour", 2, () -> town.trusted(2));
        town.swear(2, 0x1);
        CHECKS.due("the shortest way ahead of honour", 0, () -> town.trusted(2));
        for (int i = 0; i < 5; i++) {
            town.swear(1, 0x12);
            town.swear(0, 0x12);
        }
        town.swear(2, 0x12);
        CHECKS.due("the last one has honour left", 2, () -> town.trusted(2));
        town.swear(2, 0x1);
        CHECKS.due("no honour at all", 0, () -> town.trusted(2));
    }

    private static void trustWithoutWay() {
        CourierBees town = QuartersTest.row(2);
        town.addHouse();
        CHECKS.due("without bees", -1, () -> town.trusted(0));
        town.addBee(0x12);
        CHECKS.due("without a way", -1, () -> town.trusted(2));
        town.addBee(0x3);
        CHECKS.due("the one with a way", 1, () -> town.trusted(2));
        town.swear(1, 0x3);
        CHECKS.due("the one with a way, with less honour", 1, () -> town.trusted(2));
    }

    private static void means() {
        CourierBees town = QuartersTest.row(3);
        town.addBee(0x12);
        town.addBee(0x32);
        town.write(0, 1);
        CHECKS.dueMean("none yet", 0, town.mean());
        town.pass(1);
        CHECKS.dueMean("carried", 0, town.mean());
        town.pass(1);
        CHECKS.dueMean("one", 1, town.mean());
        town.write(2, 1);
        town.pass(2);
        CHECKS.dueMean("two", 2, town.mean());
        town.write(0, 1);
        town.pass(4);
        CHECKS.dueMean("three", 3, town.mean());
        town.write(0, 1);
        town.write(0, 1);
        town.write(0, 1);
        town.write(0, 1);
        town.pass(240);
        CHECKS.dueMean("seven", (1 + 3 + 5 + 9 * 3 + 11) / 7.0, town.mean());
    }

    private static void digests() {
        CourierBees town = new CourierBees();
        digestIs("new", town, 0, 0, 0, 0, 0, 0, 0, 0, 0);
        town.addHouse();
        town.addHouse();
        town.addHouse();
        town.setHive(1, true);
        digestIs("houses", town, 0, 3, 0, 0, 0, 0, 0, 0, 0, 0, 1, 0);
        town.addLane(2, 0, 4);
        town.addLane(0, 1, 6);
        town.setGate(1, 3, 9);
        digestIs("lanes", town, 0, 3, 2, 0, 0, 0, 0, 0, 1, 0, 1, 0, 2, 0, 4, 0, 24, 0, 1, 6, 3, 9);
        town.addBee(0x312);
        town.swear(0, 0x31);
        town.addBee(0x1);
        town.write(2, 0);
        town.write(1, 2);
        town.pass(3);
        digestIs("bees and letters", town, 3, 3, 2, 2, 2, 0, 1, 0, 2, 0, 1, 0,
                2, 0, 4, 0, 24, 0, 1, 6, 3, 9,
                0, 2, 26, 7, 1, 0, 2, 0, 1, 2, 0,
                0, 0, 30, 10, 0, 0, 1, 0, 1, 0,
                0, -1, 0, -1, 1, 2, 1, -1, -1, 0);
        town.pass(2);
        digestIs("arrived", town, 5, 3, 2, 2, 2, 1, 0, 0, 2, 0, 1, 0,
                2, 0, 4, 0, 24, 0, 1, 6, 3, 9,
                2, 4, 22, 8, 0, 0, 2, 1, 0, 2, 0,
                0, 0, 30, 10, 0, 0, 1, 0, 1, 0,
                0, -1, -1, 4, 1, 2, 1, -1, -1, 0);
    }

    private static void digestIs(String when, CourierBees town, int... numbers) {
        long d = 811;
        for (int x : numbers) {
            d = d * 31 + x;
        }
        CHECKS.due(when + ": digest()", d, town::digest);
    }
}
