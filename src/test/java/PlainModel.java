import java.util.ArrayList;
import java.util.List;

/**
 * The document's words once more, as slow and as plain as can be: nothing is kept that can be
 * found again, and looking ahead copies the whole town.
 */
final class PlainModel {
    private static final class Lane {
        final int a;
        final int b;
        final int length;
        int from = 0;
        int till = 24;

        Lane(int a, int b, int length) {
            this.a = a;
            this.b = b;
            this.length = length;
        }
    }

    private static final class Bee {
        List<Integer> route;
        int at;
        int heading;
        int left;
        int strength = 30;
        int honour = 10;
        boolean rests;
        boolean forth = true;
        int arrived;
    }

    private static final class Letter {
        int to;
        Integer lies;
        Bee carrier;
        Integer arrived;
        int taken;
    }

    private final List<Boolean> hives = new ArrayList<>();
    private final List<Lane> lanes = new ArrayList<>();
    private final List<Bee> bees = new ArrayList<>();
    private final List<Letter> letters = new ArrayList<>();
    private int quarter;

    private void index(boolean right) {
        if (!right) {
            throw new IndexOutOfBoundsException();
        }
    }

    private void argument(boolean right) {
        if (!right) {
            throw new IllegalArgumentException();
        }
    }

    private void state(boolean right) {
        if (!right) {
            throw new IllegalStateException();
        }
    }

    private boolean in(int number, List<?> list) {
        return 0 <= number && number < list.size();
    }

    private PlainModel copy() {
        PlainModel copy = new PlainModel();
        copy.hives.addAll(hives);
        for (Lane lane : lanes) {
            Lane other = new Lane(lane.a, lane.b, lane.length);
            other.from = lane.from;
            other.till = lane.till;
            copy.lanes.add(other);
        }
        for (Bee bee : bees) {
            Bee other = new Bee();
            other.route = new ArrayList<>(bee.route);
            other.at = bee.at;
            other.heading = bee.heading;
            other.left = bee.left;
            other.strength = bee.strength;
            other.honour = bee.honour;
            other.rests = bee.rests;
            other.forth = bee.forth;
            other.arrived = bee.arrived;
            copy.bees.add(other);
        }
        for (Letter letter : letters) {
            Letter other = new Letter();
            other.to = letter.to;
            other.lies = letter.lies;
            other.carrier = letter.carrier == null
                    ? null : copy.bees.get(bees.indexOf(letter.carrier));
            other.arrived = letter.arrived;
            other.taken = letter.taken;
            copy.letters.add(other);
        }
        copy.quarter = quarter;
        return copy;
    }

    int addHouse() {
        state(hives.size() < 14);
        hives.add(false);
        return hives.size() - 1;
    }

    boolean setHive(int house, boolean hive) {
        index(in(house, hives));
        return hives.set(house, hive);
    }

    int addLane(int a, int b, int length) {
        index(in(a, hives) && in(b, hives));
        argument(a != b && 1 <= length && length <= 6);
        state(lanes.size() < 24 && bees.isEmpty());
        lanes.add(new Lane(a, b, length));
        return lanes.size() - 1;
    }

    int setGate(int lane, int from, int till) {
        index(in(lane, lanes));
        argument(0 <= from && from <= 23 && from <= till && till <= 24);
        Lane gated = lanes.get(lane);
        int before = 100 * gated.from + gated.till;
        gated.from = from;
        gated.till = till;
        return before;
    }

    /** Spreads from the one house until no way gets shorter; null without a way. */
    private Integer shortest(int a, int b) {
        Integer[] ways = new Integer[hives.size()];
        ways[a] = 0;
        boolean shorter = true;
        while (shorter) {
            shorter = false;
            for (Lane lane : lanes) {
                for (int[] ends : new int[][] {{lane.a, lane.b}, {lane.b, lane.a}}) {
                    Integer start = ways[ends[0]];
                    Integer end = ways[ends[1]];
                    if (start != null && (end == null || start + lane.length < end)) {
                        ways[ends[1]] = start + lane.length;
                        shorter = true;
                    }
                }
            }
        }
        return ways[b];
    }

    int way(int a, int b) {
        index(in(a, hives) && in(b, hives));
        Integer way = shortest(a, b);
        return way == null ? -1 : way;
    }

    private Lane between(int a, int b) {
        Lane best = null;
        for (Lane lane : lanes) {
            boolean joins = Math.min(lane.a, lane.b) == Math.min(a, b)
                    && Math.max(lane.a, lane.b) == Math.max(a, b);
            if (joins && (best == null || lane.length < best.length)) {
                best = lane;
            }
        }
        return best;
    }

    private List<Integer> route(int number) {
        argument(number > 0);
        List<Integer> route = new ArrayList<>();
        for (char digit : Integer.toHexString(number).toCharArray()) {
            int house = Character.digit(digit, 16) - 1;
            argument(in(house, hives) && !route.contains(house));
            argument(route.isEmpty() || between(route.get(route.size() - 1), house) != null);
            route.add(house);
        }
        argument(route.size() <= 7);
        return route;
    }

    int addBee(int number) {
        List<Integer> route = route(number);
        state(bees.size() < 6);
        Bee bee = new Bee();
        bee.route = route;
        bee.at = route.get(0);
        bees.add(bee);
        return bees.size() - 1;
    }

    int swear(int number, int sworn) {
        index(in(number, bees));
        List<Integer> route = route(sworn);
        Bee bee = bees.get(number);
        state(bee.left == 0 && route.contains(bee.at));
        bee.route = route;
        bee.forth = true;
        bee.honour = Math.max(0, bee.honour - 3);
        return bee.honour;
    }

    int write(int from, int to) {
        index(in(from, hives) && in(to, hives));
        argument(from != to);
        state(letters.size() < 20);
        Letter letter = new Letter();
        letter.to = to;
        letter.lies = from;
        letters.add(letter);
        return letters.size() - 1;
    }

    private int carried(Bee bee) {
        int carried = 0;
        for (Letter letter : letters) {
            carried += letter.carrier == bee ? 1 : 0;
        }
        return carried;
    }

    private void take(Bee bee, Letter letter) {
        letter.lies = null;
        letter.carrier = bee;
        letter.taken++;
    }

    boolean bribe(int number, int asked) {
        index(in(number, bees) && in(asked, letters));
        Bee bee = bees.get(number);
        Letter letter = letters.get(asked);
        state(bee.left == 0 && letter.lies != null && letter.lies == bee.at && carried(bee) < 3);
        if (bee.honour >= 5) {
            bee.honour = Math.min(20, bee.honour + 1);
            return false;
        }
        take(bee, letter);
        bee.honour = Math.max(0, bee.honour - 1);
        return true;
    }

    int bee(int number, int what) {
        index(in(number, bees) && 0 <= what && what <= 8);
        Bee bee = bees.get(number);
        int[] facts = {bee.left > 0 ? bee.heading : bee.at, bee.left, bee.strength, bee.honour,
            carried(bee), bee.rests ? 1 : 0, bee.route.size(), bee.arrived, bee.forth ? 1 : 0};
        return facts[what];
    }

    int letter(int number, int what) {
        index(in(number, letters) && 0 <= what && what <= 4);
        Letter letter = letters.get(number);
        int[] facts = {letter.to, letter.lies == null ? -1 : letter.lies,
            letter.carrier == null ? -1 : bees.indexOf(letter.carrier),
            letter.arrived == null ? -1 : letter.arrived, letter.taken};
        return facts[what];
    }

    private Integer target(Bee bee, int to) {
        Integer best = null;
        for (Integer house : bee.route) {
            Integer way = shortest(house, to);
            if (way != null && (best == null || way < shortest(best, to))) {
                best = house;
            }
        }
        return best;
    }

    int target(int number, int house) {
        index(in(number, bees) && in(house, hives));
        Integer target = target(bees.get(number), house);
        return target == null ? -1 : target;
    }

    private void stepOfLetters(Bee bee) {
        for (Letter letter : letters) {
            if (letter.carrier == bee) {
                Integer target = target(bee, letter.to);
                if (letter.to == bee.at) {
                    letter.carrier = null;
                    letter.arrived = quarter;
                    bee.arrived++;
                    bee.honour = Math.min(20, bee.honour + 1);
                } else if (target != null && target == bee.at) {
                    letter.carrier = null;
                    letter.lies = bee.at;
                }
            }
        }
        for (Letter letter : letters) {
            if (letter.lies != null && letter.lies == bee.at && carried(bee) < 3) {
                Integer target = target(bee, letter.to);
                if (target != null) {
                    Integer here = shortest(bee.at, letter.to);
                    if (here == null || shortest(target, letter.to) < here) {
                        take(bee, letter);
                    }
                }
            }
        }
    }

    private void stepOfFlight(Bee bee) {
        if (bee.rests) {
            bee.strength = Math.min(30, bee.strength + 3);
            if (bee.strength >= 20) {
                bee.rests = false;
            }
            return;
        }
        if (hives.get(bee.at) && bee.strength < 10) {
            bee.rests = true;
            return;
        }
        if (bee.route.size() == 1) {
            return;
        }
        int place = bee.route.indexOf(bee.at);
        int last = bee.forth ? bee.route.size() - 1 : 0;
        if (place == last) {
            bee.forth = !bee.forth;
        }
        int next = bee.route.get(bee.forth ? place + 1 : place - 1);
        Lane lane = between(bee.at, next);
        int hour = quarter % 24;
        boolean closed = hour < lane.from || hour >= lane.till;
        if (closed || bee.strength < lane.length) {
            bee.strength = Math.min(30, bee.strength + 1);
        } else {
            bee.heading = next;
            bee.left = lane.length;
            bee.strength -= lane.length;
        }
    }

    private int quarters(int quarters) {
        int before = count(5);
        for (int i = 0; i < quarters; i++) {
            for (Bee bee : bees) {
                if (bee.left > 0) {
                    bee.left--;
                    if (bee.left == 0) {
                        bee.at = bee.heading;
                    }
                }
                if (bee.left == 0) {
                    stepOfLetters(bee);
                    stepOfFlight(bee);
                }
            }
            quarter++;
        }
        return count(5) - before;
    }

    int pass(int quarters) {
        argument(1 <= quarters && quarters <= 240);
        return quarters(quarters);
    }

    int count(int what) {
        index(0 <= what && what <= 8);
        int arrived = 0;
        int carried = 0;
        for (Letter letter : letters) {
            arrived += letter.arrived != null ? 1 : 0;
            carried += letter.carrier != null ? 1 : 0;
        }
        int resting = 0;
        for (Bee bee : bees) {
            resting += bee.rests ? 1 : 0;
        }
        int open = 0;
        for (Lane lane : lanes) {
            open += lane.from <= quarter % 24 && quarter % 24 < lane.till ? 1 : 0;
        }
        int[] counts = {quarter, hives.size(), lanes.size(), bees.size(), letters.size(), arrived,
            carried, resting, open};
        return counts[what];
    }

    int comes(int letter) {
        index(in(letter, letters));
        PlainModel ahead = copy();
        for (int behind = 0; behind <= 240; behind++) {
            if (ahead.letters.get(letter).arrived != null) {
                return behind;
            }
            ahead.quarters(1);
        }
        return -1;
    }

    int advise(int quarters) {
        argument(1 <= quarters && quarters <= 120);
        int most = copy().quarters(quarters);
        int best = -1;
        for (int lane = 0; lane < lanes.size(); lane++) {
            PlainModel ahead = copy();
            ahead.setGate(lane, 0, 24);
            int arrived = ahead.quarters(quarters);
            if (arrived > most) {
                most = arrived;
                best = lane;
            }
        }
        return best;
    }

    int trusted(int to) {
        index(in(to, hives));
        int best = -1;
        for (int b = 0; b < bees.size(); b++) {
            Integer target = target(bees.get(b), to);
            if (target != null) {
                if (best == -1) {
                    best = b;
                    continue;
                }
                int way = shortest(target, to);
                int bestWay = shortest(target(bees.get(best), to), to);
                if (way < bestWay
                        || way == bestWay && bees.get(b).honour > bees.get(best).honour) {
                    best = b;
                }
            }
        }
        return best;
    }

    double mean() {
        double sum = 0;
        for (Letter letter : letters) {
            sum += letter.arrived == null ? 0 : letter.arrived;
        }
        return sum == 0 ? 0 : sum / count(5);
    }

    long digest() {
        List<Integer> numbers = new ArrayList<>();
        for (int what = 0; what <= 8; what++) {
            numbers.add(count(what));
        }
        for (boolean hive : hives) {
            numbers.add(hive ? 1 : 0);
        }
        for (Lane lane : lanes) {
            numbers.addAll(List.of(lane.a, lane.b, lane.length, lane.from, lane.till));
        }
        for (int b = 0; b < bees.size(); b++) {
            for (int what = 0; what <= 8; what++) {
                numbers.add(bee(b, what));
            }
            numbers.addAll(bees.get(b).route);
        }
        for (int i = 0; i < letters.size(); i++) {
            for (int what = 0; what <= 4; what++) {
                numbers.add(letter(i, what));
            }
        }
        long d = 811;
        for (int x : numbers) {
            d = d * 31 + x;
        }
        return d;
    }
}
