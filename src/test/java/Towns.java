/** Towns that several tests begin with. */
final class Towns {
    private Towns() {
    }

    static CourierBees of(int houses) {
        CourierBees town = new CourierBees();
        for (int i = 0; i < houses; i++) {
            town.addHouse();
        }
        return town;
    }

    /** Houses in a row, joined by lanes of this length. */
    static CourierBees row(int houses, int length) {
        CourierBees town = of(houses);
        for (int i = 0; i + 1 < houses; i++) {
            town.addLane(i, i + 1, length);
        }
        return town;
    }

    /** Two houses, a lane of this length between them, and a bee that flies to and fro. */
    static CourierBees pair(int length) {
        CourierBees town = row(2, length);
        town.addBee(0x12);
        return town;
    }

    /** Bees on the lanes 0 - 1, 2 - 3 and 4 - 5, each of which is closed; a letter for each. */
    static CourierBees closed(int... lanes) {
        CourierBees town = Towns.of(6);
        for (int i = 0; i < 3; i++) {
            town.addLane(2 * i, 2 * i + 1, 2);
            town.setGate(i, 4, 4);
        }
        town.addBee(0x12);
        town.addBee(0x34);
        town.addBee(0x56);
        for (int lane : lanes) {
            town.write(2 * lane, 2 * lane + 1);
        }
        return town;
    }

    /** As many lanes between the same two houses. */
    static CourierBees strands(int lanes) {
        CourierBees town = of(2);
        for (int i = 0; i < lanes; i++) {
            town.addLane(0, 1, 2);
        }
        return town;
    }

    /**
     * Six houses, the last one without a lane, in the quarter 26: bee 0 is on lane 1 on its way to
     * house 1, with 3 quarters to go; bee 1 rests at house 3; bee 2 stays at house 2. Letters 0, 3
     * and 4 have arrived, 1 and 6 lie at house 2, 2 at house 5, and 5 is carried by bee 1.
     */
    static CourierBees busy() {
        CourierBees town = of(6);
        town.addLane(0, 1, 2);
        town.addLane(1, 2, 3);
        town.addLane(2, 3, 1);
        town.addLane(3, 4, 6);
        town.setGate(2, 8, 20);
        town.setHive(3, true);
        town.addBee(0x123);
        town.addBee(0x45);
        town.addBee(0x3);
        town.write(0, 1);
        town.write(0, 4);
        town.write(5, 0);
        town.write(4, 3);
        town.write(0, 2);
        town.pass(25);
        town.write(3, 4);
        town.write(2, 5);
        town.pass(1);
        return town;
    }

    /** 14 houses, 24 lanes, 6 bees and 20 letters: a row, with second lanes, behind 9 quarters. */
    static CourierBees full() {
        CourierBees town = of(14);
        for (int i = 0; i < 13; i++) {
            town.addLane(i, i + 1, 1 + i % 6);
        }
        for (int i = 0; i < 11; i++) {
            town.addLane(i + 1, i, 1 + i % 5);
            town.setGate(13 + i, i, 24 - i);
            town.setHive(i, i % 3 == 0);
        }
        int[] routes = {0x1234567, 0x789, 0xEDCBA98, 0x12, 0x9, 0xAB};
        for (int route : routes) {
            town.addBee(route);
        }
        for (int i = 0; i < 20; i++) {
            town.write(i % 14, (i * 5 + 3) % 14);
        }
        town.pass(9);
        return town;
    }
}
