/**
 * Long runs of calls, by fixed seeds, on the class and on the plain model of the document: each
 * call answers or throws the same, and the digests and means behind it are the same.
 */
final class ModelTest {
    private static final int RUNS = 400;
    /** What an object answers behind these is free. */
    private static final int CALLS = 512;
    /** All ways, targets, trusted bees and letters of the largest town. */
    private static final int LAST_CALLS = 14 * 14 + 14 * 6 + 14 + 20;
    /** What a step between two digests may take: three oaths, a bribe, a digest and a mean. */
    private static final int STEP_CALLS = 6;
    /** Numbers that are wrong nearly everywhere, or just right. */
    private static final int[] EDGES = {-1, 0, 1, 2, 3, 5, 6, 7, 8, 9, 13, 14, 19, 20, 23, 24, 25,
        120, 121, 240, 241, Integer.MIN_VALUE, Integer.MAX_VALUE};

    private final Checks checks;
    private final CourierBees town = new CourierBees();
    private final PlainModel model = new PlainModel();
    private final int run;
    private final boolean[][] joined = new boolean[14][14];
    private int asked;
    private long seed;

    private ModelTest(int run, Checks checks) {
        this.run = run;
        this.checks = checks;
        this.seed = 7919L * run + 17;
    }

    public static void main(String[] args) {
        Checks checks = new Checks();
        for (int run = 0; run < RUNS; run++) {
            new ModelTest(run, checks).calls();
        }
        checks.end("ModelTest");
    }

    private int below(int bound) {
        seed = seed * 6364136223846793005L + 1442695040888963407L;
        return (int) ((seed >>> 33) % bound);
    }

    private boolean oneOf(int bound) {
        return below(bound) == 0;
    }

    /** Mostly a number below the bound, now and then another one. */
    private int number(int bound) {
        return bound == 0 || oneOf(25) ? EDGES[below(EDGES.length)] : below(bound);
    }

    private void same(String what, Checks.Call due, Checks.Call call) {
        asked++;
        checks.due("run " + run + ": " + what, Checks.outcome(due), call);
    }

    private void sameState() {
        same("digest()", model::digest, town::digest);
        asked++;
        checks.dueMean("run " + run + ": mean()", model.mean(), town.mean());
    }

    private void calls() {
        int houses = 2 + below(13);
        for (int i = 0; i < houses; i++) {
            same("addHouse()", model::addHouse, town::addHouse);
        }
        int lanes = oneOf(5) ? below(25) : houses - 1 + below(8);
        for (int i = 0; i < lanes; i++) {
            int a = i < houses ? i : below(houses);
            lane(a, oneOf(4) ? below(houses) : (a + 1) % houses, 1 + below(oneOf(2) ? 6 : 2));
        }
        for (int i = 0; i < lanes; i++) {
            if (oneOf(3)) {
                gate(i);
            }
        }
        for (int i = 0; i < houses; i++) {
            hive(i);
        }
        int bees = 1 + below(6);
        for (int i = 0; i < 3 * bees && model.count(3) < bees; i++) {
            int route = route(below(houses));
            same("addBee(" + route + ")", () -> model.addBee(route), () -> town.addBee(route));
        }
        boolean inTheEnd = run % 4 == 0;
        int last = CALLS - STEP_CALLS - (inTheEnd ? LAST_CALLS : 0);
        while (asked <= last) {
            call();
            sameState();
        }
        if (inTheEnd) {
            everything();
        }
        checks.same("run " + run + ": at most 512 calls", "true", String.valueOf(asked <= CALLS));
    }

    private void lane(int a, int b, int length) {
        int before = model.count(2);
        same("addLane(" + a + ", " + b + ", " + length + ")", () -> model.addLane(a, b, length),
                () -> town.addLane(a, b, length));
        if (model.count(2) > before) {
            joined[a][b] = true;
            joined[b][a] = true;
        }
    }

    private void gate(int lane) {
        int from = oneOf(3) ? 0 : number(24);
        int till = oneOf(3) ? 24 : from + number(8);
        same("setGate(" + lane + ", " + from + ", " + till + ")",
                () -> model.setGate(lane, from, till), () -> town.setGate(lane, from, till));
    }

    private void hive(int house) {
        boolean hive = oneOf(3);
        same("setHive(" + house + ", " + hive + ")", () -> Checks.bit(model.setHive(house, hive)),
                () -> Checks.bit(town.setHive(house, hive)));
    }

    /** A walk from this house, which is mostly a route. */
    private int route(int first) {
        int route = 0;
        int house = first;
        int length = oneOf(20) ? 8 : 1 + below(7);
        boolean[] seen = new boolean[16];
        for (int i = 0; i < length; i++) {
            route = route * 16 + house + 1;
            seen[house] = true;
            int next = house;
            for (int tries = 0; tries < 30; tries++) {
                int other = below(model.count(1));
                if (!seen[other] && joined[house][other]) {
                    next = other;
                }
            }
            if (next == house && !oneOf(20)) {
                break;
            }
            house = next;
        }
        return oneOf(30) ? route ^ 1 << below(32) : route;
    }

    private void call() {
        int houses = model.count(1);
        int bees = model.count(3);
        int letters = model.count(4);
        switch (below(20)) {
            case 0: gate(number(model.count(2))); break;
            case 1: hive(number(houses)); break;
            case 2: case 3: write(number(houses), number(houses)); break;
            case 4: oath(number(bees)); break;
            case 5: case 6: bribe(number(bees), number(letters)); break;
            case 7: case 8: case 9: case 10: case 11: case 12:
                pass(oneOf(9) ? number(241) : 1 + below(6));
                break;
            case 13: comes(number(letters)); break;
            case 14: advise(oneOf(5) ? number(121) : 1 + below(40)); break;
            case 15: trusted(number(houses)); break;
            case 16: target(number(bees), number(houses)); break;
            case 17: facts(number(bees), number(letters), number(9)); break;
            case 18: distance(number(houses), number(houses)); break;
            default: rare(); break;
        }
    }

    private void rare() {
        switch (below(4)) {
            case 0: lane(number(model.count(1)), number(model.count(1)), number(7)); break;
            case 1: same("addHouse()", model::addHouse, town::addHouse); break;
            default:
                int route = route(below(model.count(1)));
                same("addBee(" + route + ")", () -> model.addBee(route),
                        () -> town.addBee(route));
                break;
        }
    }

    private void write(int from, int to) {
        same("write(" + from + ", " + to + ")", () -> model.write(from, to),
                () -> town.write(from, to));
    }

    private void oath(int bee) {
        boolean known = 0 <= bee && bee < model.count(3);
        int route = route(known && !oneOf(5) ? model.bee(bee, 0) : below(model.count(1)));
        same("swear(" + bee + ", " + route + ")", () -> model.swear(bee, route),
                () -> town.swear(bee, route));
    }

    /** Mostly with a letter that lies where the bee is. */
    private void bribe(int bee, int any) {
        int letter = any;
        if (0 <= bee && bee < model.count(3) && !oneOf(3)) {
            for (int i = 0; i < model.count(4); i++) {
                letter = model.letter(i, 1) == model.bee(bee, 0) ? i : letter;
            }
        }
        bribe(bee, letter, oneOf(3) ? 3 : 0);
    }

    /** Oaths ahead of it leave little honour to the bee. */
    private void bribe(int bee, int letter, int oaths) {
        for (int i = 0; i < oaths; i++) {
            oath(bee);
        }
        same("bribe(" + bee + ", " + letter + ")", () -> Checks.bit(model.bribe(bee, letter)),
                () -> Checks.bit(town.bribe(bee, letter)));
    }

    private void pass(int quarters) {
        same("pass(" + quarters + ")", () -> model.pass(quarters), () -> town.pass(quarters));
    }

    private void comes(int letter) {
        same("comes(" + letter + ")", () -> model.comes(letter), () -> town.comes(letter));
    }

    private void advise(int quarters) {
        same("advise(" + quarters + ")", () -> model.advise(quarters),
                () -> town.advise(quarters));
    }

    private void trusted(int to) {
        same("trusted(" + to + ")", () -> model.trusted(to), () -> town.trusted(to));
    }

    private void target(int bee, int house) {
        same("target(" + bee + ", " + house + ")", () -> model.target(bee, house),
                () -> town.target(bee, house));
    }

    private void distance(int a, int b) {
        same("way(" + a + ", " + b + ")", () -> model.way(a, b), () -> town.way(a, b));
    }

    private void facts(int bee, int letter, int what) {
        same("bee(" + bee + ", " + what + ")", () -> model.bee(bee, what),
                () -> town.bee(bee, what));
        same("letter(" + letter + ", " + what + ")", () -> model.letter(letter, what),
                () -> town.letter(letter, what));
        same("count(" + what + ")", () -> model.count(what), () -> town.count(what));
    }

    private void everything() {
        for (int a = 0; a < model.count(1); a++) {
            trusted(a);
            for (int b = 0; b < model.count(1); b++) {
                distance(a, b);
            }
            for (int bee = 0; bee < model.count(3); bee++) {
                target(bee, a);
            }
        }
        for (int i = 0; i < model.count(4); i++) {
            comes(i);
        }
    }
}
