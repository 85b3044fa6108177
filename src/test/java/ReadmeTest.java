/** The example of README.md, with the answers that stand there. */
final class ReadmeTest {
    private static final Checks CHECKS = new Checks();

    public static void main(String[] args) {
        example();
        routeOfThree();
        CHECKS.end("ReadmeTest");
    }

    private static void example() {
        CourierBees town = new CourierBees();
        CHECKS.due("addHouse()", 0, town::addHouse);
        CHECKS.due("addHouse() again", 1, town::addHouse);
        CHECKS.due("addLane(0, 1, 3)", 0, () -> town.addLane(0, 1, 3));
        CHECKS.due("setGate(0, 6, 20)", 24, () -> town.setGate(0, 6, 20));
        CHECKS.due("addBee(0x12)", 0, () -> town.addBee(0x12));
        CHECKS.due("write(0, 1)", 0, () -> town.write(0, 1));
        CHECKS.due("comes(0)", 10, () -> town.comes(0));
        CHECKS.due("advise(5)", 0, () -> town.advise(5));
        CHECKS.due("pass(10)", 1, () -> town.pass(10));
        CHECKS.due("letter(0, 3)", 9, () -> town.letter(0, 3));
        CHECKS.dueMean("mean()", 9, town.mean());
    }

    /** What README.md says of the route 0x3E1. */
    private static void routeOfThree() {
        CourierBees town = Towns.of(14);
        town.addLane(2, 13, 1);
        town.addLane(13, 0, 1);
        CHECKS.due("addBee(0x3E1)", 0, () -> town.addBee(0x3E1));
        CHECKS.bee("the route 0x3E1", town, 0, 2, 0, 30, 10, 0, 0, 3, 0, 1);
        town.pass(2);
        CHECKS.bee("behind 2 quarters", town, 0, 0, 1, 28);
        town.pass(1);
        CHECKS.bee("behind 3 quarters", town, 0, 13, 1, 27, 10, 0, 0, 3, 0, 0);
    }
}
