/** Promises 1 to 6: a new object, addHouse, setHive, addLane, setGate, way. */
final class TownTest {
    private static final Checks CHECKS = new Checks();

    public static void main(String[] args) {
        newObject();
        houses();
        hives();
        lanes();
        lanesInWrongStates();
        gates();
        ways();
        waysOverLaterLanes();
        CHECKS.end("TownTest");
    }

    static CourierBees townOf(int houses) {
        CourierBees town = new CourierBees();
        for (int i = 0; i < houses; i++) {
            town.addHouse();
        }
        return town;
    }

    private static void newObject() {
        CourierBees town = new CourierBees();
        for (int what = 0; what <= 8; what++) {
            int asked = what;
            CHECKS.due("new: count(" + what + ")", 0, () -> town.count(asked));
        }
        CHECKS.due("new: way(0, 0)", Checks.INDEX, () -> town.way(0, 0));
        CHECKS.due("new: bee(0, 0)", Checks.INDEX, () -> town.bee(0, 0));
        CHECKS.due("new: letter(0, 0)", Checks.INDEX, () -> town.letter(0, 0));
        CHECKS.dueMean("new: mean()", 0, town.mean());
        CourierBees other = townOf(2);
        CHECKS.due("two objects: count(1)", 0, () -> town.count(1));
        CHECKS.due("two objects: other count(1)", 2, () -> other.count(1));
    }

    private static void houses() {
        CourierBees town = new CourierBees();
        for (int i = 0; i < 14; i++) {
            CHECKS.due("addHouse()", i, town::addHouse);
        }
        CHECKS.refused("addHouse() beyond 14", Checks.STATE, town, town::addHouse);
        CHECKS.due("count(1) with 14", 14, () -> town.count(1));
        CHECKS.due("setHive(13, false) on a new house", 0,
                () -> Checks.bit(town.setHive(13, false)));
    }

    private static void hives() {
        CourierBees town = townOf(2);
        CHECKS.due("setHive(1, true)", 0, () -> Checks.bit(town.setHive(1, true)));
        CHECKS.due("setHive(1, true) again", 1, () -> Checks.bit(town.setHive(1, true)));
        CHECKS.due("setHive(0, false)", 0, () -> Checks.bit(town.setHive(0, false)));
        CHECKS.due("setHive(1, false)", 1, () -> Checks.bit(town.setHive(1, false)));
        CHECKS.due("setHive(1, false) again", 0, () -> Checks.bit(town.setHive(1, false)));
        for (int house : new int[] {-1, 2, 14, Integer.MIN_VALUE, Integer.MAX_VALUE}) {
            CHECKS.refused("setHive(" + house + ", true)", Checks.INDEX, town,
                    () -> Checks.bit(town.setHive(house, true)));
        }
        // A house that is built later has none of what was refused.
        town.addHouse();
        CHECKS.due("setHive(2, false)", 0, () -> Checks.bit(town.setHive(2, false)));
    }

    private static void lanes() {
        CourierBees town = townOf(3);
        CHECKS.due("addLane(0, 1, 1)", 0, () -> town.addLane(0, 1, 1));
        CHECKS.due("addLane(1, 0, 6)", 1, () -> town.addLane(1, 0, 6));
        CHECKS.due("addLane(0, 1, 1) once more", 2, () -> town.addLane(0, 1, 1));
        CHECKS.due("count(2)", 3, () -> town.count(2));
        int[][] houses = {{-1, 0}, {0, -1}, {3, 0}, {0, 3}, {3, 3}, {-1, -1},
            {Integer.MIN_VALUE, 0}, {0, Integer.MAX_VALUE}};
        for (int[] pair : houses) {
            // A wrong house is named ahead of a wrong length.
            for (int length : new int[] {1, 0, 7}) {
                CHECKS.refused("addLane(" + pair[0] + ", " + pair[1] + ", " + length + ")",
                        Checks.INDEX, town, () -> town.addLane(pair[0], pair[1], length));
            }
        }
        for (int length : new int[] {0, 7, -1, Integer.MIN_VALUE, Integer.MAX_VALUE}) {
            CHECKS.refused("addLane(0, 2, " + length + ")", Checks.ARGUMENT, town,
                    () -> town.addLane(0, 2, length));
        }
        CHECKS.refused("addLane(2, 2, 3)", Checks.ARGUMENT, town, () -> town.addLane(2, 2, 3));
        CHECKS.due("way(0, 2) behind what was refused", -1, () -> town.way(0, 2));
    }

    private static void lanesInWrongStates() {
        CourierBees full = townOf(2);
        for (int i = 0; i < 24; i++) {
            CHECKS.due("addLane(0, 1, 2)", i, () -> full.addLane(0, 1, 2));
        }
        CHECKS.refused("addLane beyond 24", Checks.STATE, full, () -> full.addLane(0, 1, 1));
        CHECKS.refused("addLane(0, 0, 1) beyond 24", Checks.ARGUMENT, full,
                () -> full.addLane(0, 0, 1));
        CHECKS.refused("addLane(0, 2, 1) beyond 24", Checks.INDEX, full,
                () -> full.addLane(0, 2, 1));
        CHECKS.due("way(0, 1) behind what was refused", 2, () -> full.way(0, 1));
        CourierBees town = townOf(2);
        town.addLane(0, 1, 3);
        town.addBee(0x1);
        CHECKS.refused("addLane with a bee", Checks.STATE, town, () -> town.addLane(0, 1, 1));
        CHECKS.refused("addLane(1, 1, 1) with a bee", Checks.ARGUMENT, town,
                () -> town.addLane(1, 1, 1));
        CHECKS.refused("addLane(1, 2, 1) with a bee", Checks.INDEX, town,
                () -> town.addLane(1, 2, 1));
        CHECKS.due("addHouse() with a bee", 2, town::addHouse);
    }

    private static void gates() {
        CourierBees town = townOf(2);
        town.addLane(0, 1, 1);
        CHECKS.due("setGate(0, 23, 24)", 24, () -> town.setGate(0, 23, 24));
        CHECKS.due("setGate(0, 0, 0)", 2324, () -> town.setGate(0, 0, 0));
        CHECKS.due("setGate(0, 23, 23)", 0, () -> town.setGate(0, 23, 23));
        CHECKS.due("setGate(0, 7, 19)", 2323, () -> town.setGate(0, 7, 19));
        int[][] wrong = {{-1, 5}, {24, 24}, {5, 4}, {0, 25}, {0, -1}, {-1, -1},
            {Integer.MIN_VALUE, 0}, {0, Integer.MAX_VALUE}};
        for (int[] gate : wrong) {
            String called = gate[0] + ", " + gate[1] + ")";
            CHECKS.refused("setGate(0, " + called, Checks.ARGUMENT, town,
                    () -> town.setGate(0, gate[0], gate[1]));
            CHECKS.refused("setGate(1, " + called, Checks.INDEX, town,
                    () -> town.setGate(1, gate[0], gate[1]));
        }
        for (int lane : new int[] {-1, 1, 24, Integer.MIN_VALUE, Integer.MAX_VALUE}) {
            CHECKS.refused("setGate(" + lane + ", 0, 24)", Checks.INDEX, town,
                    () -> town.setGate(lane, 0, 24));
        }
        CHECKS.due("setGate(0, 0, 24)", 719, () -> town.setGate(0, 0, 24));
    }

    private static void ways() {
        CourierBees town = townOf(5);
        town.addLane(0, 1, 6);
        town.addLane(1, 0, 5);
        town.addLane(1, 2, 4);
        town.addLane(0, 3, 1);
        town.addLane(3, 2, 2);
        town.setGate(4, 3, 3);
        long[][] due = {{0, 5, 3, 1, -1}, {5, 0, 4, 6, -1}, {3, 4, 0, 2, -1},
            {1, 6, 2, 0, -1}, {-1, -1, -1, -1, 0}};
        for (int a = 0; a < 5; a++) {
            for (int b = 0; b < 5; b++) {
                int from = a;
                int to = b;
                CHECKS.due("way(" + a + ", " + b + ")", due[a][b], () -> town.way(from, to));
            }
        }
        for (int house : new int[] {-1, 5, 14, Integer.MIN_VALUE, Integer.MAX_VALUE}) {
            CHECKS.refused("way(" + house + ", 0)", Checks.INDEX, town, () -> town.way(house, 0));
            CHECKS.refused("way(0, " + house + ")", Checks.INDEX, town, () -> town.way(0, house));
        }
    }

    private static void waysOverLaterLanes() {
        CourierBees row = townOf(14);
        for (int i = 12; i >= 0; i--) {
            row.addLane(i + 1, i, 6);
        }
        CHECKS.due("way(0, 13) over the longest row", 78, () -> row.way(0, 13));
        CHECKS.due("way(13, 1) over the longest row", 72, () -> row.way(13, 1));
        row.addLane(0, 13, 1);
        CHECKS.due("way(1, 12) round about", 13, () -> row.way(1, 12));
        CHECKS.due("way(0, 6) along the row", 36, () -> row.way(0, 6));
        CHECKS.due("way(0, 7) round about", 37, () -> row.way(0, 7));
        CHECKS.due("way(0, 8) round about", 31, () -> row.way(0, 8));
    }
}
