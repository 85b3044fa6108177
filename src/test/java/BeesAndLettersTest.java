/** Promises 7 to 13: addBee, swear, write, bribe, bee, letter, target. */
final class BeesAndLettersTest {
    private static final Checks CHECKS = new Checks();
    /** No rows of digits, or rows of houses that the town of rows() has not or not joined. */
    private static final int[] WRONG_ROUTES = {0, -1, 0x3, 0x10, 0x102, 0x11, 0x121, 0xF, 0xE,
        0x9, 0x13, 0x31, 0x15, 0x12345678, 0x10000000, 0x12300000, Integer.MIN_VALUE,
        Integer.MAX_VALUE, 0xF2345671};

    public static void main(String[] args) {
        newBees();
        longestRoutes();
        wrongRoutes();
        lanesOfRoutes();
        oaths();
        oathsInWrongStates();
        oathOfATiredBee();
        newLetters();
        bribes();
        bribesInWrongStates();
        bribesOnALane();
        bribeWithoutHonour();
        wrongQuestions();
        targets();
        targetsWithoutWay();
        CHECKS.end("BeesAndLettersTest");
    }

    private static void facts(String when, CourierBees town, int bee, long... due) {
        for (int what = 0; what < due.length; what++) {
            int asked = what;
            CHECKS.due(when + ": bee(" + bee + ", " + what + ")", due[what],
                    () -> town.bee(bee, asked));
        }
    }

    private static void letterFacts(String when, CourierBees town, int letter, long... due) {
        for (int what = 0; what < due.length; what++) {
            int asked = what;
            CHECKS.due(when + ": letter(" + letter + ", " + what + ")", due[what],
                    () -> town.letter(letter, asked));
        }
    }

    /** Houses 0 - 1 by 2, 1 - 2 by 3, 2 - 3 by 1, and 4 alone. */
    private static CourierBees rowTown() {
        CourierBees town = TownTest.townOf(5);
        town.addLane(0, 1, 2);
        town.addLane(1, 2, 3);
        town.addLane(2, 3, 1);
        return town;
    }

    private static void newBees() {
        CourierBees town = rowTown();
        CHECKS.due("addBee(0x321)", 0, () -> town.addBee(0x321));
        facts("a new bee", town, 0, 2, 0, 30, 10, 0, 0, 3, 0, 1);
        CHECKS.due("addBee(0x5)", 1, () -> town.addBee(0x5));
        facts("a bee with one house", town, 1, 4, 0, 30, 10, 0, 0, 1, 0, 1);
        for (int i = 2; i < 6; i++) {
            CHECKS.due("addBee(0x12)", i, () -> town.addBee(0x12));
        }
        CHECKS.refused("addBee beyond 6", Checks.STATE, town, () -> town.addBee(0x12));
        CHECKS.refused("addBee(0) beyond 6", Checks.ARGUMENT, town, () -> town.addBee(0));
        CHECKS.due("count(3)", 6, () -> town.count(3));
    }

    private static void longestRoutes() {
        CourierBees town = TownTest.townOf(14);
        for (int i = 0; i < 13; i++) {
            town.addLane(i, i + 1, 1);
        }
        CHECKS.due("addBee(0xEDCBA98)", 0, () -> town.addBee(0xEDCBA98));
        facts("seven houses", town, 0, 13, 0, 30, 10, 0, 0, 7, 0, 1);
        CHECKS.refused("eight houses", Checks.ARGUMENT, town, () -> town.addBee(0x12345678));
        CHECKS.refused("digit 15", Checks.ARGUMENT, town, () -> town.addBee(0xEF));
        town.pass(7);
        facts("at its end", town, 0, 8, 1, 23, 10, 0, 0, 7, 0, 0);
    }

    private static void wrongRoutes() {
        CourierBees town = TownTest.townOf(2);
        town.addLane(0, 1, 1);
        town.addBee(0x12);
        for (int route : WRONG_ROUTES) {
            String called = Integer.toHexString(route) + ")";
            CHECKS.refused("addBee(" + called, Checks.ARGUMENT, town, () -> town.addBee(route));
            CHECKS.refused("swear(0, " + called, Checks.ARGUMENT, town,
                    () -> town.swear(0, route));
            CHECKS.refused("swear(1, " + called, Checks.INDEX, town,
                    () -> town.swear(1, route));
        }
        CourierBees row = rowTown();
        CHECKS.refused("houses that are not joined", Checks.ARGUMENT, row,
                () -> row.addBee(0x13));
        CHECKS.refused("a house alone in the row", Checks.ARGUMENT, row,
                () -> row.addBee(0x125));
        // What a refused route told must not stay with a bee.
        row.addBee(0x123);
        row.swear(0, 0x123);
        CHECKS.refused("swear what is no route", Checks.ARGUMENT, row, () -> row.swear(0, 0x43218));
        CHECKS.due("target(0, 3) behind a refused route", 2, () -> row.target(0, 3));
    }

    private static void lanesOfRoutes() {
        CourierBees town = TownTest.townOf(2);
        town.addLane(0, 1, 5);
        town.addLane(1, 0, 2);
        town.addLane(0, 1, 2);
        town.addBee(0x12);
        town.setGate(2, 0, 0);
        town.pass(1);
        facts("by the shortest lane", town, 0, 1, 2, 28);
        CourierBees closed = TownTest.townOf(2);
        closed.addLane(0, 1, 2);
        closed.addLane(0, 1, 2);
        closed.addBee(0x12);
        closed.setGate(0, 0, 0);
        closed.pass(1);
        facts("by the smallest number, closed", closed, 0, 0, 0, 30);
    }

    private static void oaths() {
        CourierBees town = rowTown();
        town.addBee(0x123);
        town.pass(8);
        facts("turned at the end", town, 0, 1, 1, 22, 10, 0, 0, 3, 0, 0);
        town.pass(2);
        facts("on its way back", town, 0, 0, 1, 20, 10, 0, 0, 3, 0, 0);
        town.setGate(0, 0, 0);
        town.pass(2);
        facts("at the closed gate", town, 0, 0, 0, 22, 10, 0, 0, 3, 0, 1);
        CHECKS.due("swear(0, 0x21)", 7, () -> town.swear(0, 0x21));
        facts("behind an oath", town, 0, 0, 0, 22, 7, 0, 0, 2, 0, 1);
        CHECKS.due("target(0, 3) behind an oath", 1, () -> town.target(0, 3));
        CHECKS.due("swear the same again", 4, () -> town.swear(0, 0x21));
        CHECKS.due("swear(0, 0x1)", 1, () -> town.swear(0, 0x1));
        CHECKS.due("swear(0, 0x12) with honour 1", 0, () -> town.swear(0, 0x12));
        CHECKS.due("swear(0, 0x12) with honour 0", 0, () -> town.swear(0, 0x12));
        facts("with honour 0", town, 0, 0, 0, 22, 0, 0, 0, 2, 0, 1);
        town.setGate(0, 0, 24);
        town.pass(1);
        facts("off again", town, 0, 1, 2, 20, 0, 0, 0, 2, 0, 1);
    }

    private static void oathsInWrongStates() {
        CourierBees town = rowTown();
        town.addBee(0x123);
        CHECKS.refused("swear without its house", Checks.STATE, town,
                () -> town.swear(0, 0x234));
        for (int bee : new int[] {-1, 1, 6, Integer.MIN_VALUE, Integer.MAX_VALUE}) {
            CHECKS.refused("swear(" + bee + ", 0x12)", Checks.INDEX, town,
                    () -> town.swear(bee, 0x12));
        }
        town.pass(1);
        CHECKS.refused("swear on a lane", Checks.STATE, town, () -> town.swear(0, 0x12));
        town.pass(1);
        CHECKS.due("the last quarter on it", 1, () -> town.bee(0, 1));
        CHECKS.refused("swear in the last quarter on it", Checks.STATE, town,
                () -> town.swear(0, 0x12));
        CHECKS.refused("swear nothing on a lane", Checks.ARGUMENT, town,
                () -> town.swear(0, 0x0));
        CHECKS.due("bee(0, 3) behind what was refused", 10, () -> town.bee(0, 3));
    }

    /** An oath is no end of a rest, and a bee with one house rests, but has nothing else. */
    private static void oathOfATiredBee() {
        CourierBees town = TownTest.townOf(2);
        town.addLane(0, 1, 6);
        town.addBee(0x12);
        town.pass(6 * 4);
        town.setHive(0, true);
        town.pass(1);
        facts("at home and tired", town, 0, 0, 0, 6, 10, 0, 1);
        town.swear(0, 0x1);
        facts("an oath at rest", town, 0, 0, 0, 6, 7, 0, 1, 1, 0, 1);
        town.pass(5);
        facts("rested", town, 0, 0, 0, 21, 7, 0, 0, 1, 0, 1);
        town.pass(9);
        facts("stays with its one house", town, 0, 0, 0, 21, 7, 0, 0, 1, 0, 1);
    }

    private static void newLetters() {
        CourierBees town = rowTown();
        CHECKS.due("write(0, 3)", 0, () -> town.write(0, 3));
        letterFacts("a new letter", town, 0, 3, 0, -1, -1, 0);
        CHECKS.due("write(4, 0)", 1, () -> town.write(4, 0));
        letterFacts("another one", town, 1, 0, 4, -1, -1, 0);
        CHECKS.refused("write(2, 2)", Checks.ARGUMENT, town, () -> town.write(2, 2));
        for (int house : new int[] {-1, 5, 14, Integer.MIN_VALUE, Integer.MAX_VALUE}) {
            CHECKS.refused("write(" + house + ", 0)", Checks.INDEX, town,
                    () -> town.write(house, 0));
            CHECKS.refused("write(0, " + house + ")", Checks.INDEX, town,
                    () -> town.write(0, house));
            CHECKS.refused("write(" + house + ", the same)", Checks.INDEX, town,
                    () -> town.write(house, house));
        }
        for (int i = 2; i < 20; i++) {
            CHECKS.due("write(1, 2)", i, () -> town.write(1, 2));
        }
        CHECKS.refused("write beyond 20", Checks.STATE, town, () -> town.write(1, 2));
        CHECKS.refused("write(1, 1) beyond 20", Checks.ARGUMENT, town, () -> town.write(1, 1));
        CHECKS.refused("write(1, 5) beyond 20", Checks.INDEX, town, () -> town.write(1, 5));
        CHECKS.due("count(4)", 20, () -> town.count(4));
    }

    private static void bribes() {
        CourierBees town = rowTown();
        town.addBee(0x12);
        town.write(0, 4);
        CHECKS.due("bribe with honour 10", 0, () -> Checks.bit(town.bribe(0, 0)));
        facts("behind a refusal", town, 0, 0, 0, 30, 11, 0);
        letterFacts("behind a refusal", town, 0, 4, 0, -1, -1, 0);
        for (int i = 12; i < 24; i++) {
            town.bribe(0, 0);
            CHECKS.due("bee(0, 3) refuses again", Math.min(i, 20), () -> town.bee(0, 3));
        }
        for (int i = 0; i < 5; i++) {
            town.swear(0, 0x12);
        }
        CHECKS.due("bribe with honour 5", 0, () -> Checks.bit(town.bribe(0, 0)));
        town.swear(0, 0x12);
        CHECKS.due("bribe with honour 3", 1, () -> Checks.bit(town.bribe(0, 0)));
        facts("bribed", town, 0, 0, 0, 30, 2, 1);
        letterFacts("bribed", town, 0, 4, -1, 0, -1, 1);
        // It has no target: it is carried for ever.
        town.pass(50);
        letterFacts("long behind a bribe", town, 0, 4, -1, 0, -1, 1);
    }

    private static void bribesInWrongStates() {
        CourierBees town = rowTown();
        town.addBee(0x12);
        town.swear(0, 0x12);
        town.swear(0, 0x12);
        for (int i = 0; i < 4; i++) {
            town.write(0, 4);
        }
        town.write(1, 4);
        for (int number : new int[] {-1, 5, 20, Integer.MIN_VALUE, Integer.MAX_VALUE}) {
            CHECKS.refused("bribe(" + number + ", 0)", Checks.INDEX, town,
                    () -> Checks.bit(town.bribe(number, 0)));
            CHECKS.refused("bribe(0, " + number + ")", Checks.INDEX, town,
                    () -> Checks.bit(town.bribe(0, number)));
        }
        CHECKS.refused("bribe for a letter elsewhere", Checks.STATE, town,
                () -> Checks.bit(town.bribe(0, 4)));
        CHECKS.due("bribe with honour 4", 1, () -> Checks.bit(town.bribe(0, 0)));
        CHECKS.refused("bribe for what it carries", Checks.STATE, town,
                () -> Checks.bit(town.bribe(0, 0)));
        CHECKS.due("bribe with honour 3", 1, () -> Checks.bit(town.bribe(0, 1)));
        CHECKS.due("bribe with honour 2", 1, () -> Checks.bit(town.bribe(0, 2)));
        CHECKS.refused("bribe with 3 letters", Checks.STATE, town,
                () -> Checks.bit(town.bribe(0, 3)));
        facts("with 3 letters", town, 0, 0, 0, 30, 1, 3);
        town.pass(1);
        CHECKS.refused("bribe on a lane", Checks.STATE, town,
                () -> Checks.bit(town.bribe(0, 3)));
        CHECKS.refused("bribe on a lane towards the letter", Checks.STATE, town,
                () -> Checks.bit(town.bribe(0, 4)));
    }

    /** To a bee on a lane the house to which it is on its way is not the one where it is. */
    private static void bribesOnALane() {
        CourierBees town = rowTown();
        town.addBee(0x12);
        town.swear(0, 0x12);
        town.swear(0, 0x12);
        town.write(0, 4);
        town.write(1, 4);
        for (int left = 2; left > 0; left--) {
            town.pass(1);
            long due = left;
            CHECKS.due("bee(0, 1) on the lane", due, () -> town.bee(0, 1));
            CHECKS.refused("bribe on a lane, for behind it", Checks.STATE, town,
                    () -> Checks.bit(town.bribe(0, 0)));
            CHECKS.refused("bribe on a lane, for ahead of it", Checks.STATE, town,
                    () -> Checks.bit(town.bribe(0, 1)));
        }
    }

    /** Honour ends at 0; a bribe for a letter that had best stay has it laid down again. */
    private static void bribeWithoutHonour() {
        CourierBees town = rowTown();
        town.addBee(0x12);
        for (int i = 0; i < 4; i++) {
            town.swear(0, 0x1);
        }
        town.write(0, 3);
        CHECKS.due("bribe with honour 0", 1, () -> Checks.bit(town.bribe(0, 0)));
        CHECKS.due("bee(0, 3) at least 0", 0, () -> town.bee(0, 3));
        town.pass(1);
        letterFacts("laid down at its target", town, 0, 3, 0, -1, -1, 1);
        CHECKS.due("bribe again", 1, () -> Checks.bit(town.bribe(0, 0)));
        letterFacts("taken again", town, 0, 3, -1, 0, -1, 2);
    }

    private static void wrongQuestions() {
        CourierBees town = rowTown();
        town.addBee(0x123);
        town.write(0, 1);
        for (int wrong : new int[] {-1, 9, Integer.MIN_VALUE, Integer.MAX_VALUE}) {
            CHECKS.due("bee(0, " + wrong + ")", Checks.INDEX, () -> town.bee(0, wrong));
            CHECKS.due("bee(" + wrong + ", 0)", Checks.INDEX, () -> town.bee(wrong, 0));
            CHECKS.due("letter(0, " + wrong + ")", Checks.INDEX, () -> town.letter(0, wrong));
            CHECKS.due("letter(" + wrong + ", 0)", Checks.INDEX, () -> town.letter(wrong, 0));
            CHECKS.due("target(0, " + wrong + ")", Checks.INDEX, () -> town.target(0, wrong));
            CHECKS.due("target(" + wrong + ", 0)", Checks.INDEX, () -> town.target(wrong, 0));
        }
        CHECKS.due("letter(0, 5)", Checks.INDEX, () -> town.letter(0, 5));
        CHECKS.due("bee(1, 0)", Checks.INDEX, () -> town.bee(1, 0));
        CHECKS.due("letter(1, 0)", Checks.INDEX, () -> town.letter(1, 0));
        CHECKS.due("target(0, 5)", Checks.INDEX, () -> town.target(0, 5));
        CHECKS.due("target(1, 0)", Checks.INDEX, () -> town.target(1, 0));
    }

    private static void targets() {
        // A ring of 0, 1, 2, 3 by lanes of 2, and 4 off 3 by 1.
        CourierBees town = TownTest.townOf(5);
        for (int i = 0; i < 4; i++) {
            town.addLane(i, (i + 1) % 4, 2);
        }
        town.addLane(3, 4, 1);
        town.addBee(0x123);
        town.addBee(0x321);
        CHECKS.due("target on the route", 1, () -> town.target(0, 1));
        CHECKS.due("the first one of several", 0, () -> town.target(0, 3));
        CHECKS.due("the first one of several, beyond", 0, () -> town.target(0, 4));
        CHECKS.due("the first one in the row", 2, () -> town.target(1, 4));
        town.swear(0, 0x14);
        CHECKS.due("behind an oath", 3, () -> town.target(0, 4));
        CHECKS.due("behind an oath, off it", 0, () -> town.target(0, 1));
        town.setGate(4, 0, 0);
        CHECKS.due("whatever gates are closed", 3, () -> town.target(0, 4));
    }

    private static void targetsWithoutWay() {
        CourierBees town = rowTown();
        town.addBee(0x123);
        town.addBee(0x5);
        CHECKS.due("no way", -1, () -> town.target(0, 4));
        CHECKS.due("the house alone", 4, () -> town.target(1, 4));
        CHECKS.due("no way from the house alone", -1, () -> town.target(1, 0));
        town.addHouse();
        CHECKS.due("a house that is built later", -1, () -> town.target(0, 5));
        town.write(0, 4);
        town.pass(30);
        letterFacts("without a target", town, 0, 4, 0, -1, -1, 0);
    }
}
