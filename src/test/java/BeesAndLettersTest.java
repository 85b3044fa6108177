/** Promises 7 to 13 in ordinary use: addBee, swear, write, bribe, bee, letter, target. */
final class BeesAndLettersTest {
    private static final Checks CHECKS = new Checks();

    public static void main(String[] args) {
        newBees();
        oaths();
        oathOfATiredBee();
        newLetters();
        bribes();
        bribeWithoutHonour();
        targets();
        targetsWithoutWay();
        CHECKS.end("BeesAndLettersTest");
    }

    /** Houses 0 - 1 by 2, 1 - 2 by 3, 2 - 3 by 1, and 4 alone. */
    private static CourierBees rowTown() {
        CourierBees town = Towns.of(5);
        town.addLane(0, 1, 2);
        town.addLane(1, 2, 3);
        town.addLane(2, 3, 1);
        return town;
    }

    private static void newBees() {
        CourierBees town = rowTown();
        CHECKS.due("addBee(0x321)", 0, () -> town.addBee(0x321));
        CHECKS.bee("a new bee", town, 0, 2, 0, 30, 10, 0, 0, 3, 0, 1);
        CHECKS.due("addBee(0x5)", 1, () -> town.addBee(0x5));
        CHECKS.bee("a bee with one house", town, 1, 4, 0, 30, 10, 0, 0, 1, 0, 1);
        CHECKS.due("count(3)", 2, () -> town.count(3));
    }

    private static void oaths() {
        CourierBees town = rowTown();
        town.addBee(0x123);
        town.pass(8);
        CHECKS.bee("turned at the end", town, 0, 1, 1, 22, 10, 0, 0, 3, 0, 0);
        town.pass(2);
        CHECKS.bee("on its way back", town, 0, 0, 1, 20, 10, 0, 0, 3, 0, 0);
        town.setGate(0, 0, 0);
        town.pass(2);
        CHECKS.bee("at the closed gate", town, 0, 0, 0, 22, 10, 0, 0, 3, 0, 1);
        CHECKS.due("swear(0, 0x21)", 7, () -> town.swear(0, 0x21));
        CHECKS.bee("behind an oath", town, 0, 0, 0, 22, 7, 0, 0, 2, 0, 1);
        CHECKS.due("target(0, 3) behind an oath", 1, () -> town.target(0, 3));
        CHECKS.due("swear the same again", 4, () -> town.swear(0, 0x21));
        CHECKS.due("swear(0, 0x1)", 1, () -> town.swear(0, 0x1));
        CHECKS.due("swear(0, 0x12) with honour 1", 0, () -> town.swear(0, 0x12));
        CHECKS.due("swear(0, 0x12) with honour 0", 0, () -> town.swear(0, 0x12));
        CHECKS.bee("with honour 0", town, 0, 0, 0, 22, 0, 0, 0, 2, 0, 1);
        town.setGate(0, 0, 24);
        town.pass(1);
        CHECKS.bee("off again", town, 0, 1, 2, 20, 0, 0, 0, 2, 0, 1);
    }

    /** An oath is no end of a rest, and a bee with one house rests, but has nothing else. */
    private static void oathOfATiredBee() {
        CourierBees town = Towns.of(2);
        town.addLane(0, 1, 6);
        town.addBee(0x12);
        town.pass(6 * 4);
        town.setHive(0, true);
        town.pass(1);
        CHECKS.bee("at home and tired", town, 0, 0, 0, 6, 10, 0, 1);
        town.swear(0, 0x1);
        CHECKS.bee("an oath at rest", town, 0, 0, 0, 6, 7, 0, 1, 1, 0, 1);
        town.pass(5);
        CHECKS.bee("rested", town, 0, 0, 0, 21, 7, 0, 0, 1, 0, 1);
        town.pass(9);
        CHECKS.bee("stays with its one house", town, 0, 0, 0, 21, 7, 0, 0, 1, 0, 1);
    }

    private static void newLetters() {
        CourierBees town = rowTown();
        CHECKS.due("write(0, 3)", 0, () -> town.write(0, 3));
        CHECKS.letter("a new letter", town, 0, 0, -1, -1, 0);
        CHECKS.due("write(4, 0)", 1, () -> town.write(4, 0));
        CHECKS.letter("another one", town, 1, 4, -1, -1, 0);
        CHECKS.due("count(4)", 2, () -> town.count(4));
    }

    private static void bribes() {
        CourierBees town = rowTown();
        town.addBee(0x12);
        town.write(0, 4);
        CHECKS.due("bribe with honour 10", 0, () -> Checks.bit(town.bribe(0, 0)));
        CHECKS.bee("behind a refusal", town, 0, 0, 0, 30, 11, 0);
        CHECKS.letter("behind a refusal", town, 0, 0, -1, -1, 0);
        for (int i = 0; i < 3; i++) {
            town.swear(0, 0x12);
        }
        CHECKS.due("bribe with honour 2", 1, () -> Checks.bit(town.bribe(0, 0)));
        CHECKS.bee("bribed", town, 0, 0, 0, 30, 1, 1);
        CHECKS.letter("bribed", town, 0, -1, 0, -1, 1);
        // It has no target: it is carried for ever.
        town.pass(50);
        CHECKS.letter("long behind a bribe", town, 0, -1, 0, -1, 1);
    }

    /** Honour ends at 0; a bribe for a letter that had best stay has it laid down again. */
    private static void bribeWithoutHonour() {
        CourierBees town = rowTown();
        town.addBee(0x12);
        for (int i = 0; i < 4; i++) {
            town.swear(0, 0x1);
        }
        town.write(0, 3);
        CHECKS.due("bribe with honour 0", 1, () -> Checks.bit(town.bribe(0, 0)));
        CHECKS.due("bee(0, 3) at least 0", 0, () -> town.bee(0, 3));
        town.pass(1);
        CHECKS.letter("laid down at its target", town, 0, 0, -1, -1, 1);
        CHECKS.due("bribe again", 1, () -> Checks.bit(town.bribe(0, 0)));
        CHECKS.letter("taken again", town, 0, -1, 0, -1, 2);
    }

    private static void targets() {
        // A ring of 0, 1, 2, 3 by lanes of 2, and 4 off 3 by 1.
        CourierBees town = Towns.of(5);
        for (int i = 0; i < 4; i++) {
            town.addLane(i, (i + 1) % 4, 2);
        }
        town.addLane(3, 4, 1);
        town.addBee(0x123);
        town.addBee(0x321);
        CHECKS.due("target on the route", 1, () -> town.target(0, 1));
        CHECKS.due("the first one of several", 0, () -> town.target(0, 3));
        CHECKS.due("the first one of several, beyond", 0, () -> town.target(0, 4));
        CHECKS.due("the first one in the row", 2, () -> town.target(1, 4));
        town.swear(0, 0x14);
        CHECKS.due("behind an oath", 3, () -> town.target(0, 4));
        CHECKS.due("behind an oath, off it", 0, () -> town.target(0, 1));
        town.setGate(4, 0, 0);
        CHECKS.due("whatever gates are closed", 3, () -> town.target(0, 4));
    }

    private static void targetsWithoutWay() {
        CourierBees town = rowTown();
        town.addBee(0x123);
        town.addBee(0x5);
        CHECKS.due("no way", -1, () -> town.target(0, 4));
        CHECKS.due("the house alone", 4, () -> town.target(1, 4));
        CHECKS.due("no way from the house alone", -1, () -> town.target(1, 0));
        town.addHouse();
        CHECKS.due("a house that is built later", -1, () -> town.target(0, 5));
        town.write(0, 4);
        town.pass(30);
        CHECKS.letter("without a target", town, 0, 0, -1, -1, 0);
    }
}
