import java.math.BigInteger;
import java.util.ArrayList;
import java.util.HashMap;
import java.util.List;
import java.util.Map;
import java.util.TreeSet;

/**
 * The document once more, written for plainness alone, to compare LouvreCraft with in random runs. It shares no
 * code with it: the state is rows of numbers, each heat flow is worked out for itself, and rules are trees.
 */
public final class PlainModel {
    static final int NONE = -1;
    static final int GONE = -1000000001;
    static final int RANGE = -1000000002;
    static final int FULL = -1000000003;
    static final int SYNTAX = -1000000004;

    interface Sum {
        BigInteger of(State s);
    }

    interface Test {
        boolean of(State s);
    }

    interface Action {
        void on(State s);
    }

    static final class Rule {
        Test test;
        Action action;
    }

    /** Rows: a node, louvre or heater is a row of its numbers in the order of the document. */
    static final class State {
        List<long[]> nodes = new ArrayList<>();
        List<long[]> louvres = new ArrayList<>();
        List<long[]> heaters = new ArrayList<>();
        Map<String, Integer> links = new HashMap<>();
        List<Integer> violators = new ArrayList<>();
        List<Rule> rules = new ArrayList<>();
        int[] orbit = {6000, 0, 0, 1361, 0, 0};
        long[] power = {0, 0, 0, 0};
        long[] energies = {0, 0, 0};
        int shed = 0;
        int stepLength = 10;
        int time = 0;

        State copy() {
            State c = new State();
            for (long[] row : nodes) {
                c.nodes.add(row.clone());
            }
            for (long[] row : louvres) {
                c.louvres.add(row.clone());
            }
            for (long[] row : heaters) {
                c.heaters.add(row.clone());
            }
            c.links.putAll(links);
            c.violators.addAll(violators);
            c.rules.addAll(rules);
            c.orbit = orbit.clone();
            c.power = power.clone();
            c.energies = energies.clone();
            c.shed = shed;
            c.stepLength = stepLength;
            c.time = time;
            return c;
        }

        int phase() {
            return time % orbit[0];
        }

        boolean sun() {
            return !(phase() >= orbit[1] && phase() < orbit[2]);
        }

        long used() {
            return heaters.stream().filter(h -> h[7] == 1).mapToLong(h -> h[1]).sum();
        }

        long target(long[] louvre) {
            long t = nodes.get((int) louvre[0])[1];
            long wanted = (t - louvre[2]) * 1000 / (louvre[3] - louvre[2]);
            return wanted < 0 ? 0 : wanted > 1000 ? 1000 : wanted;
        }

        long absorbed(int n) {
            long emitting = nodes.get(n)[2];
            long absorbing = nodes.get(n)[3];
            long solar = absorbing * orbit[3] / 10 + absorbing * orbit[3] * orbit[4] / 1000;
            return (sun() ? solar : 0) + emitting * orbit[5] / 10;
        }

        long conducted(int n) {
            long sum = 0;
            for (int other = 0; other < nodes.size(); other++) {
                sum += link(n, other) * (nodes.get(other)[1] - nodes.get(n)[1]) / 1000;
            }
            return sum;
        }

        long emitted(int n) {
            long area = nodes.get(n)[2];
            for (long[] louvre : louvres) {
                if (louvre[0] == n) {
                    area += louvre[1] * louvre[5] / 1000;
                }
            }
            BigInteger kelvin = BigInteger.valueOf((nodes.get(n)[1] + 273150) / 1000);
            return kelvin.pow(4).multiply(BigInteger.valueOf(area * 567)).divide(BigInteger.valueOf(100000000000L)).longValueExact();
        }

        long net(int n) {
            long sum = nodes.get(n)[4] + absorbed(n) + conducted(n) - emitted(n);
            for (long[] heater : heaters) {
                if (heater[0] == n && heater[7] == 1) {
                    sum += heater[1];
                }
            }
            return sum;
        }

        long link(int a, int b) {
            return links.getOrDefault(Math.min(a, b) + " " + Math.max(a, b), 0);
        }

        boolean outside(int n) {
            long[] node = nodes.get(n);
            return node[1] < node[5] || node[1] > node[6];
        }

        boolean step() {
            for (Rule rule : rules) {
                if (rule.test.of(this)) {
                    rule.action.on(this);
                }
            }
            for (long[] louvre : louvres) {
                long way = target(louvre) - louvre[5];
                if (louvre[6] == 0) {
                    louvre[5] += Long.signum(way) * Math.min(Math.abs(way), louvre[4]);
                }
            }
            for (long[] heater : heaters) {
                long t = nodes.get((int) heater[0])[1];
                boolean wish = heater[6] == 1;
                boolean automatic = t < heater[2] || wish && t <= heater[3];
                heater[6] = heater[5] == 1 || heater[5] == 0 && automatic ? 1 : 0;
            }
            share();
            long[] net = new long[nodes.size()];
            for (int n = 0; n < net.length; n++) {
                net[n] = net(n);
                energies[0] += stepLength * emitted(n);
                energies[1] += stepLength * absorbed(n);
            }
            energies[2] += stepLength * used();
            time += stepLength;
            boolean some = false;
            for (int n = 0; n < net.length; n++) {
                long[] node = nodes.get(n);
                node[1] = Math.min(200000, Math.max(-200000, node[1] + net[n] * stepLength / node[0]));
                node[7] = Math.min(node[7], node[1]);
                node[8] = Math.max(node[8], node[1]);
                if (outside(n)) {
                    some = true;
                    node[9]++;
                    if (!violators.contains(n)) {
                        violators.add(n);
                        node[10] = time;
                    }
                }
            }
            return some;
        }

        private void share() {
            long solar = sun() ? power[0] : 0;
            long available = Math.max(0, power[3] / stepLength - power[1] + solar);
            long charge = power[3] + stepLength * (solar - power[1]);
            for (long priority = 9; priority >= 0; priority--) {
                for (long[] heater : heaters) {
                    if (heater[4] != priority) {
                        continue;
                    }
                    heater[7] = heater[6] == 0 ? 0 : heater[1] <= available ? 1 : 2;
                    if (heater[7] == 1) {
                        available -= heater[1];
                        charge -= stepLength * heater[1];
                    } else if (heater[7] == 2) {
                        shed++;
                    }
                }
            }
            power[3] = Math.max(0, Math.min(power[2], charge));
        }
    }

    static final class Wrong extends Exception {
        final int code;
        final int position;

        Wrong(int code, int position) {
            this.code = code;
            this.position = position;
        }
    }

    private State s = new State();
    private final State[] saved = new State[2];
    private String text = "";
    private int errorCode = 0;
    private int errorPosition = -1;

    private static boolean in(long value, long least, long most) {
        return least <= value && value <= most;
    }

    private static boolean gone(List<long[]> rows, int n) {
        return n < 0 || n >= rows.size();
    }

    private boolean noNode(int n) {
        return gone(s.nodes, n);
    }

    private int nodeValue(int n, int column) {
        return noNode(n) ? GONE : (int) s.nodes.get(n)[column];
    }

    private int louvreValue(int n, int column) {
        return gone(s.louvres, n) ? GONE : (int) s.louvres.get(n)[column];
    }

    private int heaterValue(int n, int column) {
        return gone(s.heaters, n) ? GONE : (int) s.heaters.get(n)[column];
    }

    private int setNodeValue(int n, int column, int value, boolean good) {
        if (noNode(n) || !good) {
            return noNode(n) ? GONE : RANGE;
        }
        int previous = (int) s.nodes.get(n)[column];
        s.nodes.get(n)[column] = value;
        return previous;
    }

    private static int add(List<long[]> rows, int most, boolean good, long... row) {
        if (!good || rows.size() == most) {
            return good ? FULL : RANGE;
        }
        rows.add(row);
        return rows.size() - 1;
    }

    public int addNode(int capacity, int temperature, int emitting, int absorbing, int load) {
        boolean good = in(capacity, 1, 100000) && in(temperature, -200000, 200000) && in(emitting, 0, 10000)
                && in(absorbing, 0, 10000) && in(load, 0, 1000000);
        return add(s.nodes, 12, good, capacity, temperature, emitting, absorbing, load, -200000, 200000,
                temperature, temperature, 0, -1);
    }

    public int nodeCount() {
        return s.nodes.size();
    }

    public int setLimits(int node, int low, int high) {
        if (noNode(node)) {
            return GONE;
        }
        if (low < -200000 || low > high || high > 200000) {
            return RANGE;
        }
        s.nodes.get(node)[5] = low;
        s.nodes.get(node)[6] = high;
        return 0;
    }

    public int setTemperature(int node, int temperature) {
        return setNodeValue(node, 1, temperature, in(temperature, -200000, 200000));
    }

    public int setLoad(int node, int load) {
        return setNodeValue(node, 4, load, in(load, 0, 1000000));
    }

    public int link(int a, int b, int conductance) {
        if (noNode(a) || noNode(b)) {
            return GONE;
        }
        if (a == b || !in(conductance, 0, 100000)) {
            return RANGE;
        }
        int previous = (int) s.link(a, b);
        if (previous == 0 && conductance > 0 && s.links.size() == 24) {
            return FULL;
        }
        String key = Math.min(a, b) + " " + Math.max(a, b);
        s.links.remove(key);
        if (conductance > 0) {
            s.links.put(key, conductance);
        }
        return previous;
    }

    public int conductance(int a, int b) {
        return noNode(a) || noNode(b) ? GONE : (int) s.link(a, b);
    }

    public int linkCount() {
        return s.links.size();
    }

    public int addLouvre(int node, int area, int closed, int open, int rate) {
        boolean good = in(area, 0, 10000) && in(closed, -200000, 199999) && in(open, closed + 1L, 200000) && in(rate, 1, 1000);
        return noNode(node) ? GONE : add(s.louvres, 6, good, node, area, closed, open, rate, 0, 0);
    }

    public int addHeater(int node, int power, int lower, int higher, int priority) {
        boolean good = in(power, 0, 100000) && in(lower, -200000, higher) && higher <= 200000 && in(priority, 0, 9);
        return noNode(node) ? GONE : add(s.heaters, 8, good, node, power, lower, higher, priority, 0, 0, 0);
    }

    public int louvreCount() {
        return s.louvres.size();
    }

    public int opening(int louvre) {
        return louvreValue(louvre, 5);
    }

    public int target(int louvre) {
        return gone(s.louvres, louvre) ? GONE : (int) s.target(s.louvres.get(louvre));
    }

    public int isHeld(int louvre) {
        return louvreValue(louvre, 6);
    }

    public int heaterCount() {
        return s.heaters.size();
    }

    public int heaterState(int heater) {
        return heaterValue(heater, 7);
    }

    public int heaterMode(int heater) {
        return heaterValue(heater, 5);
    }

    public int setMode(int heater, int mode) {
        int previous = heaterValue(heater, 5);
        if (previous != GONE && !in(mode, 0, 2)) {
            return RANGE;
        }
        if (previous != GONE) {
            s.heaters.get(heater)[5] = mode;
        }
        return previous;
    }

    public int setOrbit(int period, int shadeFrom, int shadeTo, int flux, int albedo, int infrared) {
        if (!in(period, 1, 100000) || !in(shadeFrom, 0, period) || !in(shadeTo, shadeFrom, period)
                || !in(flux, 0, 10000) || !in(albedo, 0, 100) || !in(infrared, 0, 10000)) {
            return RANGE;
        }
        s.orbit = new int[] {period, shadeFrom, shadeTo, flux, albedo, infrared};
        return 0;
    }

    public int setPower(int array, int base, int capacity, int charge) {
        if (!in(array, 0, 1000000) || !in(base, 0, 1000000) || !in(capacity, 0, 1000000000) || !in(charge, 0, capacity)) {
            return RANGE;
        }
        s.power = new long[] {array, base, capacity, charge};
        return 0;
    }

    public int setStepLength(int seconds) {
        int previous = s.stepLength;
        s.stepLength = in(seconds, 1, 60) ? seconds : previous;
        return in(seconds, 1, 60) ? previous : RANGE;
    }

    public int run(int count) {
        if (!in(count, 1, 1000) || s.time + (long) count * s.stepLength > 100000000) {
            return RANGE;
        }
        int violated = 0;
        for (int i = 0; i < count; i++) {
            violated += s.step() ? 1 : 0;
        }
        return violated;
    }

    public int time() {
        return s.time;
    }

    public int phase() {
        return s.phase();
    }

    public boolean isSunlit() {
        return s.sun();
    }

    public int charge() {
        return (int) s.power[3];
    }

    public int usedPower() {
        return (int) s.used();
    }

    public int temperature(int node) {
        return nodeValue(node, 1);
    }

    public int load(int node) {
        return nodeValue(node, 4);
    }

    public long absorbedHeat(int node) {
        return noNode(node) ? GONE : s.absorbed(node);
    }

    public long emittedHeat(int node) {
        return noNode(node) ? GONE : s.emitted(node);
    }

    public long conductedHeat(int node) {
        return noNode(node) ? GONE : s.conducted(node);
    }

    public long netHeat(int node) {
        return noNode(node) ? GONE : s.net(node);
    }

    public int margin(int node) {
        int t = nodeValue(node, 1);
        return noNode(node) ? GONE : Math.min(t - nodeValue(node, 5), nodeValue(node, 6) - t);
    }

    public int resetRecords() {
        int removed = s.violators.size();
        s.violators.clear();
        s.shed = 0;
        s.energies = new long[3];
        for (long[] node : s.nodes) {
            node[7] = node[1];
            node[8] = node[1];
            node[9] = 0;
            node[10] = -1;
        }
        return removed;
    }

    public int lowest(int node) {
        return nodeValue(node, 7);
    }

    public int highest(int node) {
        return nodeValue(node, 8);
    }

    public int violations(int node) {
        return nodeValue(node, 9);
    }

    public int firstViolation(int node) {
        return nodeValue(node, 10);
    }

    public int violatorCount() {
        return s.violators.size();
    }

    public int violator(int index) {
        return in(index, 0, s.violators.size() - 1) ? s.violators.get(index) : RANGE;
    }

    public int shedCount() {
        return s.shed;
    }

    public long energy(int which) {
        return in(which, 0, 2) ? s.energies[which] : RANGE;
    }

    public int stepsToViolation(int node, int steps) {
        if (node != NONE && noNode(node)) {
            return GONE;
        }
        if (!in(steps, 1, 2000)) {
            return RANGE;
        }
        State c = s.copy();
        for (int i = 1; i <= steps; i++) {
            boolean some = c.step();
            if (some && (node == NONE || c.outside(node))) {
                return i;
            }
        }
        return NONE;
    }

    public int extremeAhead(int node, int steps, boolean hottest) {
        if (noNode(node)) {
            return GONE;
        }
        if (!in(steps, 1, 2000)) {
            return RANGE;
        }
        State c = s.copy();
        TreeSet<Long> all = new TreeSet<>();
        for (int i = 1; i <= steps; i++) {
            c.step();
            all.add(c.nodes.get(node)[1]);
        }
        return (int) (long) (hottest ? all.last() : all.first());
    }

    private int least(boolean heater, int part, int steps, int stride) {
        if (gone(heater ? s.heaters : s.louvres, part)) {
            return GONE;
        }
        if (!in(steps, 1, 200)) {
            return RANGE;
        }
        for (int value = 0; value <= 30 * stride; value += stride) {
            State c = s.copy();
            (heater ? c.heaters : c.louvres).get(part)[1] = value;
            int survived = 0;
            while (survived < steps && !c.step()) {
                survived++;
            }
            if (survived == steps) {
                return value;
            }
        }
        return NONE;
    }

    public int leastHeaterPower(int heater, int steps) {
        return least(true, heater, steps, 1000);
    }

    public int leastLouvreArea(int louvre, int steps) {
        return least(false, louvre, steps, 100);
    }

    public int settlingOrbit(int tolerance, int most) {
        int steps = (int) Math.ceil((double) s.orbit[0] / s.stepLength);
        if (!in(tolerance, 0, 100000) || !in(most, 1, 20) || (long) most * steps > 4000) {
            return RANGE;
        }
        State c = s.copy();
        for (int orbit = 1; orbit <= most; orbit++) {
            State before = c.copy();
            for (int i = 0; i < steps; i++) {
                c.step();
            }
            boolean near = true;
            for (int n = 0; n < c.nodes.size(); n++) {
                near &= Math.abs(c.nodes.get(n)[1] - before.nodes.get(n)[1]) <= tolerance;
            }
            if (near) {
                return orbit;
            }
        }
        return NONE;
    }

    public int appendText(int fourBytes) {
        if (text.length() + 4 > 500) {
            return FULL;
        }
        text += "" + (char) (fourBytes >>> 24) + (char) (fourBytes >>> 16 & 255) + (char) (fourBytes >>> 8 & 255)
                + (char) (fourBytes & 255);
        return text.length();
    }

    public int truncateText(int length) {
        if (!in(length, 0, text.length())) {
            return RANGE;
        }
        text = text.substring(0, length);
        return length;
    }

    public int loadRules() {
        errorCode = 0;
        errorPosition = -1;
        try {
            s.rules = new PlainParser(text, s.nodes.size(), s.louvres.size(), s.heaters.size()).rules();
        } catch (Wrong wrong) {
            errorCode = wrong.code;
            errorPosition = wrong.position;
        }
        text = "";
        return errorCode == 0 ? s.rules.size() : SYNTAX;
    }

    public int errorCode() {
        return errorCode;
    }

    public int errorPosition() {
        return errorPosition;
    }

    public int ruleCount() {
        return s.rules.size();
    }

    public int ruleHolds(int rule) {
        return !in(rule, 0, s.rules.size() - 1) ? RANGE : s.rules.get(rule).test.of(s) ? 1 : 0;
    }

    public boolean save(int slot) {
        if (in(slot, 0, 1)) {
            saved[slot] = s.copy();
        }
        return in(slot, 0, 1);
    }

    public boolean restore(int slot) {
        if (!in(slot, 0, 1) || saved[slot] == null) {
            return false;
        }
        s = saved[slot].copy();
        return true;
    }
}
