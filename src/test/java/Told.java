import java.util.ArrayList;
import java.util.List;

/**
 * All that a town tells, and how it goes on. The largest town is asked some 340 times, so that
 * one that took some 100 calls to make stays within its 512.
 */
final class Told {
    private final CourierBees town;
    private final List<String> lines = new ArrayList<>();

    private Told(CourierBees town) {
        this.town = town;
    }

    /** Changes the town in the end: it is of no use afterwards. */
    static List<String> by(CourierBees town) {
        Told told = new Told(town);
        told.whatStands();
        told.whatIsAhead();
        told.howItGoesOn();
        return told.lines;
    }

    private void line(String what, Checks.Call call) {
        lines.add(what + " " + Checks.outcome(call));
    }

    private void whatStands() {
        line("digest()", town::digest);
        lines.add("mean() " + town.mean());
        int houses = town.count(1);
        int bees = town.count(3);
        for (int a = 0; a < houses; a++) {
            for (int b = 0; b < houses; b++) {
                int from = a;
                int to = b;
                line("way(" + a + ", " + b + ")", () -> town.way(from, to));
            }
            for (int b = 0; b < bees; b++) {
                int to = a;
                int bee = b;
                line("target(" + b + ", " + a + ")", () -> town.target(bee, to));
            }
        }
    }

    private void whatIsAhead() {
        for (int i = 0; i < town.count(1); i++) {
            int house = i;
            line("trusted(" + i + ")", () -> town.trusted(house));
        }
        for (int i = 0; i < town.count(4); i++) {
            int letter = i;
            line("comes(" + i + ")", () -> town.comes(letter));
        }
        line("advise(120)", () -> town.advise(120));
    }

    private void howItGoesOn() {
        line("addHouse()", town::addHouse);
        line("addLane(0, 1, 1)", () -> town.addLane(0, 1, 1));
        line("way(0, 1)", () -> town.way(0, 1));
        line("setHive(0, true)", () -> Checks.bit(town.setHive(0, true)));
        line("addBee(0x12)", () -> town.addBee(0x12));
        line("write(0, 1)", () -> town.write(0, 1));
        line("pass(9)", () -> town.pass(9));
        line("bribe(0, 0)", () -> Checks.bit(town.bribe(0, 0)));
        line("swear(0, 0x12)", () -> town.swear(0, 0x12));
        line("digest() behind 9 quarters", town::digest);
        line("pass(240)", () -> town.pass(240));
        line("digest() behind 249 quarters", town::digest);
    }
}
