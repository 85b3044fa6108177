/** Promises 14 and 15, pass and count, and the steps of a quarter. */
final class QuartersTest {
    private static final Checks CHECKS = new Checks();

    public static void main(String[] args) {
        wrongCalls();
        quartersAreCounted();
        flight();
        dusk();
        duskOfEachDay();
        openGates();
        weakBee();
        rest();
        restFromNine();
        restToNineteen();
        restWithoutHive();
        oneHouse();
        atMostThree();
        numbersAheadOfOthers();
        honourHasAnEnd();
        handedOnInOneQuarter();
        handedOnInTheNextRound();
        takenAtRest();
        laidDownBehindAnOath();
        anotherLetterOfTheSameHouse();
        takenOnlyForAShorterWay();
        counts();
        CHECKS.end("QuartersTest");
    }

    private static void bee(String when, CourierBees town, int bee, long house, long left,
            long strength) {
        CHECKS.due(when + ": house of bee " + bee, house, () -> town.bee(bee, 0));
        CHECKS.due(when + ": quarters of bee " + bee, left, () -> town.bee(bee, 1));
        CHECKS.due(when + ": strength of bee " + bee, strength, () -> town.bee(bee, 2));
    }

    private static void letter(String when, CourierBees town, int letter, long lies, long carrier,
            long arrived, long taken) {
        CHECKS.due(when + ": lies " + letter, lies, () -> town.letter(letter, 1));
        CHECKS.due(when + ": carried " + letter, carrier, () -> town.letter(letter, 2));
        CHECKS.due(when + ": arrived " + letter, arrived, () -> town.letter(letter, 3));
        CHECKS.due(when + ": taken " + letter, taken, () -> town.letter(letter, 4));
    }

    /** Houses 0 and 1, a lane of this length between them, and a bee that flies to and fro. */
    private static CourierBees pair(int length) {
        CourierBees town = TownTest.townOf(2);
        town.addLane(0, 1, length);
        town.addBee(0x12);
        return town;
    }

    /** Houses in a row, joined by lanes of 1. */
    static CourierBees row(int houses) {
        CourierBees town = TownTest.townOf(houses);
        for (int i = 0; i + 1 < houses; i++) {
            town.addLane(i, i + 1, 1);
        }
        return town;
    }

    private static void wrongCalls() {
        CourierBees town = pair(2);
        town.write(0, 1);
        for (int quarters : new int[] {0, -1, 241, Integer.MIN_VALUE, Integer.MAX_VALUE}) {
            CHECKS.refused("pass(" + quarters + ")", Checks.ARGUMENT, town,
                    () -> town.pass(quarters));
        }
        for (int what : new int[] {-1, 9, Integer.MIN_VALUE, Integer.MAX_VALUE}) {
            CHECKS.refused("count(" + what + ")", Checks.INDEX, town, () -> town.count(what));
        }
    }

    private static void quartersAreCounted() {
        CourierBees town = new CourierBees();
        CHECKS.due("pass(1)", 0, () -> town.pass(1));
        CHECKS.due("count(0)", 1, () -> town.count(0));
        CHECKS.due("pass(240)", 0, () -> town.pass(240));
        CHECKS.due("count(0)", 241, () -> town.count(0));
    }

    private static void flight() {
        CourierBees town = pair(3);
        town.write(0, 1);
        town.write(1, 0);
        CHECKS.due("the first quarter", 0, () -> town.pass(1));
        bee("off", town, 0, 1, 3, 27);
        letter("off", town, 0, -1, 0, -1, 1);
        CHECKS.due("on the lane", 0, () -> town.pass(2));
        bee("on the lane", town, 0, 1, 1, 27);
        CHECKS.due("towards the end", 1, () -> town.bee(0, 8));
        CHECKS.due("at its end", 1, () -> town.pass(1));
        bee("off again in the same quarter", town, 0, 0, 3, 24);
        CHECKS.due("back", 0, () -> town.bee(0, 8));
        letter("at its end", town, 0, -1, -1, 3, 1);
        letter("at its end", town, 1, -1, 0, -1, 1);
        CHECKS.due("back at the beginning", 1, () -> town.pass(3));
        bee("back at the beginning", town, 0, 1, 3, 21);
        CHECKS.due("towards the end again", 1, () -> town.bee(0, 8));
        letter("back at the beginning", town, 1, -1, -1, 6, 1);
        CHECKS.due("arrived by it", 2, () -> town.bee(0, 7));
        CHECKS.due("its honour", 12, () -> town.bee(0, 3));
    }

    private static void dusk() {
        CourierBees town = pair(1);
        town.setGate(0, 5, 7);
        town.pass(5);
        bee("ahead of the morning", town, 0, 0, 0, 30);
        town.pass(1);
        bee("in the first open quarter", town, 0, 1, 1, 29);
        town.pass(1);
        bee("in the last open quarter", town, 0, 0, 1, 28);
        town.pass(1);
        bee("at dusk", town, 0, 0, 0, 29);
        CHECKS.due("it has turned where it stays", 1, () -> town.bee(0, 8));
        town.pass(1);
        bee("it gets stronger", town, 0, 0, 0, 30);
        town.pass(1);
        bee("at most 30", town, 0, 0, 0, 30);
        town.pass(19);
        bee("ahead of the next morning", town, 0, 0, 0, 30);
        town.pass(1);
        bee("in the next morning", town, 0, 1, 1, 29);
    }

    /** A gate that closes does not hold a bee that is on the lane; the last quarter is 23. */
    private static void duskOfEachDay() {
        CourierBees town = pair(2);
        town.setGate(0, 23, 24);
        town.pass(23);
        bee("ahead of the last quarter", town, 0, 0, 0, 30);
        town.pass(1);
        bee("in the last quarter", town, 0, 1, 2, 28);
        town.pass(2);
        bee("over the night", town, 0, 1, 0, 29);
        CHECKS.due("it has turned at the closed gate", 0, () -> town.bee(0, 8));
        town.setGate(0, 2, 2);
        town.pass(240);
        bee("a gate that is never open", town, 0, 1, 0, 30);
        town.setGate(0, 0, 24);
        town.pass(1);
        bee("a gate that is always open", town, 0, 0, 2, 28);
    }

    private static void openGates() {
        CourierBees town = TownTest.townOf(2);
        int[][] gates = {{5, 7}, {0, 24}, {3, 3}, {23, 24}};
        for (int i = 0; i < gates.length; i++) {
            town.addLane(0, 1, 1);
            town.setGate(i, gates[i][0], gates[i][1]);
        }
        for (int q = 0; q < 60; q++) {
            int hour = q % 24;
            CHECKS.due("count(8) in " + q, hour == 5 || hour == 6 || hour == 23 ? 2 : 1,
                    () -> town.count(8));
            town.pass(1);
        }
    }

    private static void weakBee() {
        CourierBees town = pair(6);
        town.pass(25);
        bee("its last strength", town, 0, 1, 6, 0);
        town.pass(6);
        bee("too weak", town, 0, 1, 0, 1);
        CHECKS.due("turned, though too weak", 0, () -> town.bee(0, 8));
        town.pass(5);
        bee("just strong enough", town, 0, 1, 0, 6);
        town.pass(1);
        bee("off with all of it", town, 0, 0, 6, 0);
    }

    private static void rest() {
        CourierBees town = pair(5);
        town.setHive(0, true);
        town.setHive(1, true);
        town.pass(21);
        bee("no rest with 10", town, 0, 1, 5, 5);
        CHECKS.due("no rest on a lane", 0, () -> town.bee(0, 5));
        town.pass(5);
        bee("rest from now on", town, 0, 1, 0, 5);
        CHECKS.due("rests", 1, () -> town.bee(0, 5));
        CHECKS.due("not turned yet", 1, () -> town.bee(0, 8));
        town.pass(1);
        bee("3 more", town, 0, 1, 0, 8);
        town.pass(3);
        bee("still at rest", town, 0, 1, 0, 17);
        CHECKS.due("still rests", 1, () -> town.bee(0, 5));
        town.pass(1);
        bee("rested, but stays", town, 0, 1, 0, 20);
        CHECKS.due("rests no more with 20", 0, () -> town.bee(0, 5));
        CHECKS.due("turns later", 1, () -> town.bee(0, 8));
        town.pass(1);
        bee("off", town, 0, 0, 5, 15);
    }

    /** Seven flights of 3 leave 9 of strength: with that it rests, and ends with 21. */
    private static void restFromNine() {
        CourierBees nine = pair(3);
        nine.setHive(1, true);
        nine.pass(22);
        bee("at the hive with 9", nine, 0, 1, 0, 9);
        CHECKS.due("rests with 9", 1, () -> nine.bee(0, 5));
        nine.pass(3);
        bee("not yet 20", nine, 0, 1, 0, 18);
        CHECKS.due("rests with 18", 1, () -> nine.bee(0, 5));
        nine.pass(1);
        bee("21", nine, 0, 1, 0, 21);
        CHECKS.due("rests no more with 21", 0, () -> nine.bee(0, 5));
    }

    /** Five flights of 5 and a last one of 1 leave 4 of strength: 19 is not yet enough. */
    private static void restToNineteen() {
        CourierBees town = TownTest.townOf(3);
        town.addLane(0, 1, 5);
        town.addLane(1, 2, 1);
        town.addBee(0x12);
        town.pass(25);
        bee("ahead of its fifth end", town, 0, 1, 1, 5);
        town.setGate(0, 0, 0);
        town.pass(1);
        town.setGate(0, 0, 24);
        bee("stays at it", town, 0, 1, 0, 6);
        town.swear(0, 0x23);
        town.pass(2);
        bee("off by the short lane and back", town, 0, 1, 1, 4);
        town.setHive(1, true);
        town.pass(1);
        bee("at the hive with 4", town, 0, 1, 0, 4);
        town.pass(5);
        bee("at the hive with 19", town, 0, 1, 0, 19);
        CHECKS.due("rests with 19", 1, () -> town.bee(0, 5));
        town.pass(1);
        bee("at the hive with 22", town, 0, 1, 0, 22);
        CHECKS.due("rests no more with 22", 0, () -> town.bee(0, 5));
    }

    /** Without the hive a rest goes on, but none begins; a new hive lets one begin. */
    private static void restWithoutHive() {
        CourierBees town = pair(6);
        town.pass(25);
        town.setHive(1, true);
        town.pass(6);
        bee("at the new hive", town, 0, 1, 0, 0);
        town.setHive(1, false);
        town.pass(2);
        bee("the rest goes on", town, 0, 1, 0, 6);
        CHECKS.due("it rests", 1, () -> town.bee(0, 5));
        town.pass(5);
        CHECKS.due("till 21", 0, () -> town.bee(0, 5));
        bee("till 21", town, 0, 1, 0, 21);
    }

    private static void oneHouse() {
        CourierBees town = pair(2);
        town.pass(2);
        town.setGate(0, 0, 0);
        town.pass(1);
        bee("at the closed gate", town, 0, 1, 0, 29);
        town.swear(0, 0x2);
        town.pass(10);
        bee("with one house it gets no stronger", town, 0, 1, 0, 29);
        CHECKS.due("nor does it turn", 1, () -> town.bee(0, 8));
    }

    private static void atMostThree() {
        CourierBees town = pair(2);
        for (int i = 0; i < 7; i++) {
            town.write(0, 1);
        }
        town.pass(1);
        CHECKS.due("carries", 3, () -> town.bee(0, 4));
        letter("by numbers", town, 2, -1, 0, -1, 1);
        letter("by numbers", town, 3, 0, -1, -1, 0);
        CHECKS.due("three arrive", 3, () -> town.pass(2));
        CHECKS.due("three more arrive", 3, () -> town.pass(4));
        CHECKS.due("the last one arrives", 1, () -> town.pass(4));
        letter("the last one", town, 6, -1, -1, 10, 1);
    }

    /** Those that it does not take are no hindrance to those behind them. */
    private static void numbersAheadOfOthers() {
        CourierBees town = row(4);
        town.addHouse();
        town.addBee(0x23);
        town.write(1, 0);
        town.write(1, 4);
        town.write(1, 3);
        town.write(2, 3);
        town.write(1, 2);
        town.pass(1);
        letter("the target is here", town, 0, 1, -1, -1, 0);
        letter("there is no target", town, 1, 1, -1, -1, 0);
        letter("a target on the way", town, 2, -1, 0, -1, 1);
        letter("elsewhere", town, 3, 2, -1, -1, 0);
        letter("the house itself", town, 4, -1, 0, -1, 1);
        CHECKS.due("one arrives, one is laid down", 1, () -> town.pass(1));
        letter("laid down", town, 2, 2, -1, -1, 1);
        letter("arrived", town, 4, -1, -1, 1, 1);
        CHECKS.due("its honour is 1 more only", 11, () -> town.bee(0, 3));
        CHECKS.due("it carries none", 0, () -> town.bee(0, 4));
    }

    private static void honourHasAnEnd() {
        CourierBees town = pair(1);
        for (int i = 0; i < 20; i++) {
            town.write(0, 1);
        }
        int[] honours = {10, 13, 13, 16, 16, 19, 19, 20, 20, 20};
        for (int q = 0; q < honours.length; q++) {
            town.pass(1);
            CHECKS.due("honour behind quarter " + q, honours[q], () -> town.bee(0, 3));
        }
        CHECKS.due("arrived by it", 15, () -> town.bee(0, 7));
        CHECKS.due("arrived", 15, () -> town.count(5));
    }

    /** The bee with the greater number takes in the same quarter what the other one lays down. */
    private static void handedOnInOneQuarter() {
        for (int first = 0; first < 2; first++) {
            CourierBees town = row(3);
            town.addBee(first == 0 ? 0x12 : 0x23);
            town.addBee(first == 0 ? 0x23 : 0x12);
            town.setGate(1, 1, 24);
            town.write(0, 2);
            town.pass(2);
            if (first == 0) {
                letter("handed on at once", town, 0, -1, 1, -1, 2);
            } else {
                letter("left behind", town, 0, 1, -1, -1, 1);
            }
            CHECKS.due("behind another quarter", first == 0 ? 1 : 0, () -> town.pass(1));
        }
    }

    private static void handedOnInTheNextRound() {
        CourierBees town = row(3);
        town.addBee(0x12);
        town.addBee(0x23);
        town.write(0, 2);
        town.pass(2);
        letter("laid down at the target", town, 0, 1, -1, -1, 1);
        town.pass(1);
        letter("taken by the other one", town, 0, -1, 1, -1, 2);
        CHECKS.due("it arrives", 1, () -> town.pass(1));
        letter("arrived", town, 0, -1, -1, 3, 2);
        CHECKS.due("it counts for the other one", 1, () -> town.bee(1, 7));
        CHECKS.due("it does not count for the first one", 0, () -> town.bee(0, 7));
        CHECKS.due("honour of the other one", 11, () -> town.bee(1, 3));
        CHECKS.due("honour of the first one", 10, () -> town.bee(0, 3));
    }

    private static void takenAtRest() {
        CourierBees town = pair(6);
        town.pass(24);
        town.setHive(0, true);
        town.pass(1);
        bee("at rest", town, 0, 0, 0, 6);
        town.write(0, 1);
        town.pass(1);
        bee("still at rest", town, 0, 0, 0, 9);
        letter("taken at rest", town, 0, -1, 0, -1, 1);
    }

    private static void laidDownBehindAnOath() {
        CourierBees town = pair(1);
        town.setGate(0, 0, 0);
        town.write(0, 1);
        town.pass(1);
        letter("taken", town, 0, -1, 0, -1, 1);
        town.swear(0, 0x1);
        letter("still carried", town, 0, -1, 0, -1, 1);
        town.pass(1);
        letter("laid down", town, 0, 0, -1, -1, 1);
        town.swear(0, 0x12);
        town.pass(1);
        letter("taken again", town, 0, -1, 0, -1, 2);
    }

    /** What another bee carries to this house is not for this bee to hand over. */
    private static void anotherLetterOfTheSameHouse() {
        CourierBees town = row(3);
        town.addBee(0x12);
        town.addBee(0x32);
        town.setGate(0, 0, 0);
        town.write(0, 1);
        town.write(2, 1);
        CHECKS.due("one of two arrives", 1, () -> town.pass(2));
        letter("at the closed gate", town, 0, -1, 0, -1, 1);
        letter("at the open gate", town, 1, -1, -1, 1, 1);
    }

    /** A ring of four: the house across is as far from both houses of the route. */
    private static void takenOnlyForAShorterWay() {
        CourierBees town = TownTest.townOf(4);
        for (int i = 0; i < 4; i++) {
            town.addLane(i, (i + 1) % 4, 1);
        }
        town.addBee(0x123);
        town.write(0, 3);
        town.write(2, 3);
        town.write(1, 3);
        town.pass(1);
        letter("here is the target", town, 0, 0, -1, -1, 0);
        town.pass(1);
        letter("a shorter one at either end", town, 2, -1, 0, -1, 1);
        town.pass(1);
        letter("the first one is the target, not this one", town, 2, -1, 0, -1, 1);
        letter("no shorter way, though no target", town, 1, 2, -1, -1, 0);
        town.pass(2);
        letter("laid down at the first one", town, 2, 0, -1, -1, 1);
    }

    private static void counts() {
        CourierBees town = row(3);
        town.addHouse();
        town.setHive(1, true);
        town.addBee(0x12);
        town.addBee(0x32);
        town.write(0, 1);
        town.write(0, 1);
        town.write(2, 0);
        town.write(2, 3);
        town.setGate(1, 0, 1);
        long[] first = {0, 4, 2, 2, 4, 0, 0, 0, 2};
        long[] second = {1, 4, 2, 2, 4, 0, 3, 0, 1};
        long[] third = {2, 4, 2, 2, 4, 2, 0, 0, 1};
        countsAre("at first", town, first);
        town.pass(1);
        countsAre("behind a quarter", town, second);
        town.pass(1);
        countsAre("behind two", town, third);
        CourierBees resting = pair(6);
        resting.addBee(0x21);
        resting.addBee(0x1);
        resting.setHive(0, true);
        resting.setHive(1, true);
        resting.pass(24);
        CHECKS.due("resting on lanes", 0, () -> resting.count(7));
        resting.pass(1);
        CHECKS.due("two rest", 2, () -> resting.count(7));
        resting.pass(5);
        CHECKS.due("none rests", 0, () -> resting.count(7));
    }

    private static void countsAre(String when, CourierBees town, long[] due) {
        for (int what = 0; what < due.length; what++) {
            int asked = what;
            CHECKS.due(when + ": count(" + what + ")", due[what], () -> town.count(asked));
        }
    }
}
