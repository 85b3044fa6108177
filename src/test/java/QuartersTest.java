/** Promises 14 and 15 in ordinary use, pass and count, and the steps of a quarter. */
final class QuartersTest {
    private static final Checks CHECKS = new Checks();

    public static void main(String[] args) {
        flight();
        duskOfEachDay();
        rest();
        restWithoutHive();
        atMostThree();
        numbersAheadOfOthers();
        handedOnInTheNextRound();
        takenOnlyForAShorterWay();
        counts();
        CHECKS.end("QuartersTest");
    }

    private static void flight() {
        CourierBees town = Towns.pair(3);
        town.write(0, 1);
        town.write(1, 0);
        CHECKS.due("the first quarter", 0, () -> town.pass(1));
        CHECKS.bee("off", town, 0, 1, 3, 27);
        CHECKS.letter("off", town, 0, -1, 0, -1, 1);
        CHECKS.due("on the lane", 0, () -> town.pass(2));
        CHECKS.bee("on the lane", town, 0, 1, 1, 27);
        CHECKS.due("towards the end", 1, () -> town.bee(0, 8));
        CHECKS.due("at its end", 1, () -> town.pass(1));
        CHECKS.bee("off again in the same quarter", town, 0, 0, 3, 24);
        CHECKS.due("back", 0, () -> town.bee(0, 8));
        CHECKS.letter("at its end", town, 0, -1, -1, 3, 1);
        CHECKS.letter("at its end", town, 1, -1, 0, -1, 1);
        CHECKS.due("back at the beginning", 1, () -> town.pass(3));
        CHECKS.bee("back at the beginning", town, 0, 1, 3, 21);
        CHECKS.due("towards the end again", 1, () -> town.bee(0, 8));
        CHECKS.letter("back at the beginning", town, 1, -1, -1, 6, 1);
        CHECKS.due("arrived by it", 2, () -> town.bee(0, 7));
        CHECKS.due("its honour", 12, () -> town.bee(0, 3));
    }

    /** A gate that closes does not hold a bee that is on the lane; the last quarter is 23. */
    private static void duskOfEachDay() {
        CourierBees town = Towns.pair(2);
        town.setGate(0, 23, 24);
        town.pass(23);
        CHECKS.bee("ahead of the last quarter", town, 0, 0, 0, 30);
        town.pass(1);
        CHECKS.bee("in the last quarter", town, 0, 1, 2, 28);
        town.pass(2);
        CHECKS.bee("over the night", town, 0, 1, 0, 29);
        CHECKS.due("it has turned at the closed gate", 0, () -> town.bee(0, 8));
        town.setGate(0, 2, 2);
        town.pass(240);
        CHECKS.bee("a gate that is never open", town, 0, 1, 0, 30);
        town.setGate(0, 0, 24);
        town.pass(1);
        CHECKS.bee("a gate that is always open", town, 0, 0, 2, 28);
    }

    private static void rest() {
        CourierBees town = Towns.pair(5);
        town.setHive(0, true);
        town.setHive(1, true);
        town.pass(21);
        CHECKS.bee("no rest with 10", town, 0, 1, 5, 5);
        CHECKS.due("no rest on a lane", 0, () -> town.bee(0, 5));
        town.pass(5);
        CHECKS.bee("rest from now on", town, 0, 1, 0, 5);
        CHECKS.due("rests", 1, () -> town.bee(0, 5));
        CHECKS.due("not turned yet", 1, () -> town.bee(0, 8));
        town.pass(1);
        CHECKS.bee("3 more", town, 0, 1, 0, 8);
        town.pass(3);
        CHECKS.bee("still at rest", town, 0, 1, 0, 17);
        CHECKS.due("still rests", 1, () -> town.bee(0, 5));
        town.pass(1);
        CHECKS.bee("rested, but stays", town, 0, 1, 0, 20);
        CHECKS.due("rests no more with 20", 0, () -> town.bee(0, 5));
        CHECKS.due("turns later", 1, () -> town.bee(0, 8));
        town.pass(1);
        CHECKS.bee("off", town, 0, 0, 5, 15);
    }

    /** Without the hive a rest goes on, but none begins; a new hive lets one begin. */
    private static void restWithoutHive() {
        CourierBees town = Towns.pair(6);
        town.pass(25);
        town.setHive(1, true);
        town.pass(6);
        CHECKS.bee("at the new hive", town, 0, 1, 0, 0);
        town.setHive(1, false);
        town.pass(2);
        CHECKS.bee("the rest goes on", town, 0, 1, 0, 6);
        CHECKS.due("it rests", 1, () -> town.bee(0, 5));
        town.pass(5);
        CHECKS.due("till 21", 0, () -> town.bee(0, 5));
        CHECKS.bee("till 21", town, 0, 1, 0, 21);
    }

    private static void atMostThree() {
        CourierBees town = Towns.pair(2);
        for (int i = 0; i < 7; i++) {
            town.write(0, 1);
        }
        town.pass(1);
        CHECKS.due("carries", 3, () -> town.bee(0, 4));
        CHECKS.letter("by numbers", town, 2, -1, 0, -1, 1);
        CHECKS.letter("by numbers", town, 3, 0, -1, -1, 0);
        CHECKS.due("three arrive", 3, () -> town.pass(2));
        CHECKS.due("three more arrive", 3, () -> town.pass(4));
        CHECKS.due("the last one arrives", 1, () -> town.pass(4));
        CHECKS.letter("the last one", town, 6, -1, -1, 10, 1);
    }

    /** Those that it does not take are no hindrance to those behind them. */
    private static void numbersAheadOfOthers() {
        CourierBees town = Towns.row(4, 1);
        town.addHouse();
        town.addBee(0x23);
        town.write(1, 0);
        town.write(1, 4);
        town.write(1, 3);
        town.write(2, 3);
        town.write(1, 2);
        town.pass(1);
        CHECKS.letter("the target is here", town, 0, 1, -1, -1, 0);
        CHECKS.letter("there is no target", town, 1, 1, -1, -1, 0);
        CHECKS.letter("a target on the way", town, 2, -1, 0, -1, 1);
        CHECKS.letter("elsewhere", town, 3, 2, -1, -1, 0);
        CHECKS.letter("the house itself", town, 4, -1, 0, -1, 1);
        CHECKS.due("one arrives, one is laid down", 1, () -> town.pass(1));
        CHECKS.letter("laid down", town, 2, 2, -1, -1, 1);
        CHECKS.letter("arrived", town, 4, -1, -1, 1, 1);
        CHECKS.due("its honour is 1 more only", 11, () -> town.bee(0, 3));
        CHECKS.due("it carries none", 0, () -> town.bee(0, 4));
    }

    private static void handedOnInTheNextRound() {
        CourierBees town = Towns.row(3, 1);
        town.addBee(0x12);
        town.addBee(0x23);
        town.write(0, 2);
        town.pass(2);
        CHECKS.letter("laid down at the target", town, 0, 1, -1, -1, 1);
        town.pass(1);
        CHECKS.letter("taken by the other one", town, 0, -1, 1, -1, 2);
        CHECKS.due("it arrives", 1, () -> town.pass(1));
        CHECKS.letter("arrived", town, 0, -1, -1, 3, 2);
        CHECKS.due("it counts for the other one", 1, () -> town.bee(1, 7));
        CHECKS.due("it does not count for the first one", 0, () -> town.bee(0, 7));
        CHECKS.due("honour of the other one", 11, () -> town.bee(1, 3));
        CHECKS.due("honour of the first one", 10, () -> town.bee(0, 3));
    }

    /** A ring of four: the house across is as far from both houses of the route. */
    private static void takenOnlyForAShorterWay() {
        CourierBees town = Towns.of(4);
        for (int i = 0; i < 4; i++) {
            town.addLane(i, (i + 1) % 4, 1);
        }
        town.addBee(0x123);
        town.write(0, 3);
        town.write(2, 3);
        town.write(1, 3);
        town.pass(1);
        CHECKS.letter("here is the target", town, 0, 0, -1, -1, 0);
        town.pass(1);
        CHECKS.letter("a shorter one at either end", town, 2, -1, 0, -1, 1);
        town.pass(1);
        CHECKS.letter("the first one is the target, not this one", town, 2, -1, 0, -1, 1);
        CHECKS.letter("no shorter way, though no target", town, 1, 2, -1, -1, 0);
        town.pass(2);
        CHECKS.letter("laid down at the first one", town, 2, 0, -1, -1, 1);
    }

    private static void counts() {
        CourierBees town = Towns.row(3, 1);
        town.addHouse();
        town.setHive(1, true);
        town.addBee(0x12);
        town.addBee(0x32);
        town.write(0, 1);
        town.write(0, 1);
        town.write(2, 0);
        town.write(2, 3);
        town.setGate(1, 0, 1);
        long[] first = {0, 4, 2, 2, 4, 0, 0, 0, 2};
        long[] second = {1, 4, 2, 2, 4, 0, 3, 0, 1};
        long[] third = {2, 4, 2, 2, 4, 2, 0, 0, 1};
        CHECKS.counts("at first", town, first);
        town.pass(1);
        CHECKS.counts("behind a quarter", town, second);
        town.pass(1);
        CHECKS.counts("behind two", town, third);
        CourierBees resting = Towns.pair(6);
        resting.addBee(0x21);
        resting.addBee(0x1);
        resting.setHive(0, true);
        resting.setHive(1, true);
        resting.pass(24);
        CHECKS.due("resting on lanes", 0, () -> resting.count(7));
        resting.pass(1);
        CHECKS.due("two rest", 2, () -> resting.count(7));
        resting.pass(5);
        CHECKS.due("none rests", 0, () -> resting.count(7));
    }
}
