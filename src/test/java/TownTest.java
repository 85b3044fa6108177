/** Promises 2 to 6 in ordinary use: addHouse, setHive, addLane, setGate, way. */
final class TownTest {
    private static final Checks CHECKS = new Checks();

    public static void main(String[] args) {
        hives();
        lanes();
        gates();
        ways();
        waysOverLaterLanes();
        CHECKS.end("TownTest");
    }

    private static void hives() {
        CourierBees town = Towns.of(2);
        CHECKS.due("setHive(1, true)", 0, () -> Checks.bit(town.setHive(1, true)));
        CHECKS.due("setHive(1, true) again", 1, () -> Checks.bit(town.setHive(1, true)));
        CHECKS.due("setHive(0, false)", 0, () -> Checks.bit(town.setHive(0, false)));
        CHECKS.due("setHive(1, false)", 1, () -> Checks.bit(town.setHive(1, false)));
        CHECKS.due("setHive(1, false) again", 0, () -> Checks.bit(town.setHive(1, false)));
    }

    private static void lanes() {
        CourierBees town = Towns.of(3);
        CHECKS.due("addLane(0, 1, 1)", 0, () -> town.addLane(0, 1, 1));
        CHECKS.due("addLane(1, 0, 6)", 1, () -> town.addLane(1, 0, 6));
        CHECKS.due("addLane(0, 1, 1) once more", 2, () -> town.addLane(0, 1, 1));
        CHECKS.due("count(2)", 3, () -> town.count(2));
    }

    private static void gates() {
        CourierBees town = Towns.of(2);
        town.addLane(0, 1, 1);
        CHECKS.due("setGate(0, 23, 24)", 24, () -> town.setGate(0, 23, 24));
        CHECKS.due("setGate(0, 0, 0)", 2324, () -> town.setGate(0, 0, 0));
        CHECKS.due("setGate(0, 23, 23)", 0, () -> town.setGate(0, 23, 23));
        CHECKS.due("setGate(0, 7, 19)", 2323, () -> town.setGate(0, 7, 19));
        CHECKS.due("setGate(0, 0, 24)", 719, () -> town.setGate(0, 0, 24));
    }

    private static void ways() {
        CourierBees town = Towns.of(5);
        town.addLane(0, 1, 6);
        town.addLane(1, 0, 5);
        town.addLane(1, 2, 4);
        town.addLane(0, 3, 1);
        town.addLane(3, 2, 2);
        town.setGate(4, 3, 3);
        long[][] due = {{0, 5, 3, 1, -1}, {5, 0, 4, 6, -1}, {3, 4, 0, 2, -1},
            {1, 6, 2, 0, -1}, {-1, -1, -1, -1, 0}};
        for (int a = 0; a < 5; a++) {
            for (int b = 0; b < 5; b++) {
                int from = a;
                int to = b;
                CHECKS.due("way(" + a + ", " + b + ")", due[a][b], () -> town.way(from, to));
            }
        }
    }

    private static void waysOverLaterLanes() {
        CourierBees row = Towns.of(14);
        for (int i = 12; i >= 0; i--) {
            row.addLane(i + 1, i, 6);
        }
        CHECKS.due("way(0, 13) over the longest row", 78, () -> row.way(0, 13));
        CHECKS.due("way(13, 1) over the longest row", 72, () -> row.way(13, 1));
        row.addLane(0, 13, 1);
        CHECKS.due("way(1, 12) round about", 13, () -> row.way(1, 12));
        CHECKS.due("way(0, 6) along the row", 36, () -> row.way(0, 6));
        CHECKS.due("way(0, 7) round about", 37, () -> row.way(0, 7));
        CHECKS.due("way(0, 8) round about", 31, () -> row.way(0, 8));
    }
}
