/** Promises 16 to 19 in ordinary use: comes, advise, trusted, mean. */
final class LookingAheadTest {
    private static final Checks CHECKS = new Checks();

    public static void main(String[] args) {
        comesSoon();
        advice();
        comesFromWhereBeesAre();
        trustByWay();
        trustByHonour();
        means();
        CHECKS.end("LookingAheadTest");
    }

    private static void comesSoon() {
        CourierBees town = Towns.row(3, 1);
        town.addHouse();
        town.addBee(0x12);
        town.addBee(0x23);
        town.write(0, 2);
        town.write(0, 3);
        town.write(0, 1);
        CHECKS.due("handed on: comes(0)", 4, () -> town.comes(0));
        CHECKS.due("without a way: comes(1)", -1, () -> town.comes(1));
        CHECKS.due("comes(2)", 2, () -> town.comes(2));
        town.pass(1);
        CHECKS.due("carried: comes(2)", 1, () -> town.comes(2));
        town.pass(1);
        CHECKS.due("arrived: comes(2)", 0, () -> town.comes(2));
        CHECKS.due("on its way: comes(0)", 2, () -> town.comes(0));
        town.pass(240);
        CHECKS.due("arrived long ago: comes(0)", 0, () -> town.comes(0));
    }

    private static void advice() {
        CHECKS.due("the one with a letter", 1, () -> Towns.closed(1).advise(10));
        // A bee takes three at once: more need longer.
        CHECKS.due("three at once", 1, () -> Towns.closed(0, 1, 1, 1, 1).advise(3));
        CourierBees town = Towns.closed(0, 1, 1);
        CHECKS.due("ahead of it", 1, () -> town.advise(120));
        town.setGate(1, 0, 24);
        town.pass(3);
        CHECKS.due("what arrived does not count", 0, () -> town.advise(120));
    }

    /** Looking ahead starts anew each time, from bees on lanes and bees at rest. */
    private static void comesFromWhereBeesAre() {
        CourierBees town = Towns.of(2);
        town.addLane(0, 1, 6);
        town.addBee(0x12);
        town.write(1, 0);
        CHECKS.due("from the beginning", 13, () -> town.comes(0));
        town.pass(1);
        CHECKS.due("on the lane", 12, () -> town.comes(0));
        CHECKS.due("on the lane, once more", 12, () -> town.comes(0));
        town.pass(3);
        CHECKS.due("further on the lane", 9, () -> town.comes(0));
        CHECKS.due("till its end", 1, () -> town.pass(9));
        town.pass(11);
        town.setHive(0, true);
        town.write(0, 1);
        CHECKS.due("ahead of its rest", 1 + 5 + 1 + 6, () -> town.comes(1));
        town.pass(2);
        CHECKS.due("at rest", 4 + 1 + 6, () -> town.comes(1));
        CHECKS.due("at rest, once more", 4 + 1 + 6, () -> town.comes(1));
        town.pass(4);
        CHECKS.due("rested", 1 + 6, () -> town.comes(1));
        CHECKS.due("it comes then", 1, () -> town.pass(7));
    }

    private static void trustByWay() {
        CourierBees town = Towns.row(5, 1);
        town.addBee(0x12);
        town.addBee(0x123);
        town.addBee(0x32);
        CHECKS.due("trusted(4)", 1, () -> town.trusted(4));
        CHECKS.due("trusted(0)", 0, () -> town.trusted(0));
        CHECKS.due("trusted(1)", 0, () -> town.trusted(1));
        town.addBee(0x45);
        CHECKS.due("trusted(4) with a nearer one", 3, () -> town.trusted(4));
        CHECKS.due("trusted(3) with a nearer one", 3, () -> town.trusted(3));
    }

    private static void trustByHonour() {
        CourierBees town = Towns.row(3, 1);
        town.addBee(0x12);
        town.addBee(0x12);
        town.addBee(0x12);
        CHECKS.due("all the same", 0, () -> town.trusted(2));
        town.swear(0, 0x12);
        CHECKS.due("the most honour, smallest number", 1, () -> town.trusted(2));
        town.swear(1, 0x12);
        CHECKS.due("the most honour", 2, () -> town.trusted(2));
        town.swear(2, 0x1);
        CHECKS.due("the shortest way ahead of honour", 0, () -> town.trusted(2));
        for (int i = 0; i < 5; i++) {
            town.swear(1, 0x12);
            town.swear(0, 0x12);
        }
        town.swear(2, 0x12);
        CHECKS.due("the last one has honour left", 2, () -> town.trusted(2));
        town.swear(2, 0x1);
        CHECKS.due("no honour at all", 0, () -> town.trusted(2));
    }

    private static void means() {
        CourierBees town = Towns.row(3, 1);
        town.addBee(0x12);
        town.addBee(0x32);
        town.write(0, 1);
        CHECKS.dueMean("none yet", 0, town.mean());
        town.pass(1);
        CHECKS.dueMean("carried", 0, town.mean());
        town.pass(1);
        CHECKS.dueMean("one", 1, town.mean());
        town.write(2, 1);
        town.pass(2);
        CHECKS.dueMean("two", 2, town.mean());
        town.write(0, 1);
        town.pass(4);
        CHECKS.dueMean("three", 3, town.mean());
        town.write(0, 1);
        town.write(0, 1);
        town.write(0, 1);
        town.write(0, 1);
        town.pass(240);
        CHECKS.dueMean("seven", (1 + 3 + 5 + 9 * 3 + 11) / 7.0, town.mean());
    }
}
