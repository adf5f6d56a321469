/**
 * A thermal model of a spacecraft that is simulated step by step, follows rules written as a text,
 * and is planned by forecasts. README.md tells how to use it.
 */
public final class LouvreCraft {
    public static final int NONE = -1;
    public static final int NO_SUCH_PART = -1000000001;
    public static final int OUT_OF_RANGE = -1000000002;
    public static final int FULL = -1000000003;
    public static final int SYNTAX_ERROR = -1000000004;

    private static final int NODES_MOST = 12;
    private static final int LINKS_MOST = 24;
    private static final int LOUVRES_MOST = 6;
    private static final int HEATERS_MOST = 8;
    private static final int RULES_MOST = 12;
    private static final int TEXT_MOST = 500;
    private static final int LEVELS_MOST = 20;
    private static final int SLOTS = 2;

    private static final int COLDEST = -200000;
    private static final int HOTTEST = 200000;
    private static final int HEAT_CAPACITY_MOST = 100000;
    private static final int CONDUCTANCE_MOST = 100000;
    private static final int AREA_MOST = 10000;
    private static final int LOAD_MOST = 1000000;
    private static final int OPENING_MOST = 1000;
    private static final int HEATER_POWER_MOST = 100000;
    private static final int PRIORITY_MOST = 9;
    private static final int PERIOD_MOST = 100000;
    private static final int FLUX_MOST = 10000;
    private static final int ALBEDO_MOST = 100;
    private static final int SUPPLY_MOST = 1000000;
    private static final int CHARGE_MOST = 1000000000;
    private static final int STEP_LENGTH_MOST = 60;
    private static final int RUN_MOST = 1000;
    private static final int TIME_MOST = 100000000;
    private static final int FORECAST_MOST = 2000;
    private static final int TRIAL_MOST = 200;
    private static final int TRIAL_POWER_MOST = 30000;
    private static final int TRIAL_POWER_STRIDE = 1000;
    private static final int TRIAL_AREA_MOST = 3000;
    private static final int TRIAL_AREA_STRIDE = 100;
    private static final int TOLERANCE_MOST = 100000;
    private static final int ORBITS_MOST = 20;
    private static final int ORBIT_STEPS_MOST = 4000;
    private static final int NUMBER_MOST = 999999;
    private static final long SUM_MOST = 1000000000000L;

    private static final int MODE_AUTOMATIC = 0;
    private static final int MODE_ON = 1;
    private static final int MODE_OFF = 2;
    private static final int STATE_OFF = 0;
    private static final int STATE_ON = 1;
    private static final int STATE_SHED = 2;

    private static final int NOT_ALLOWED = 1;
    private static final int WRONG_NUMBER = 2;
    private static final int TOO_MANY_RULES = 3;
    private static final int TOO_DEEP = 4;

    // What a token is: the code of a symbol is its byte, so all others keep clear of 32 to 126.
    private static final int END = 0;
    private static final int UNKNOWN = 1;
    private static final int NUMBER = 200;
    private static final int WHEN = 201;
    private static final int OR = 202;
    private static final int AND = 203;
    private static final int NOT = 204;
    private static final int TEMP = 205;
    private static final int OPEN = 206;
    private static final int STATE = 207;
    private static final int SUN = 208;
    private static final int PHASE = 209;
    private static final int CHARGE = 210;
    private static final int USED = 211;
    private static final int HEATER = 212;
    private static final int LOUVRE = 213;
    private static final int LOAD = 214;
    private static final int ON = 215;
    private static final int OFF = 216;
    private static final int AUTO = 217;
    private static final int HOLD = 218;
    private static final int FREE = 219;
    private static final int NEGATE = 220;
    // The words in the order of their numbers from WHEN on, each with a space behind it.
    private static final String WORDS =
            "when or and not temp open state sun phase charge used heater louvre load on off auto hold free ";
    private static final String SYMBOLS = "<>=+-*/():;";

    private final Craft craft;
    private final Craft trial;
    private final Craft[] saved;
    private final boolean[] isSaved;
    private final RuleReader reader;

    public LouvreCraft() {
        craft = new Craft();
        trial = new Craft();
        saved = new Craft[SLOTS];
        for (int slot = 0; slot < SLOTS; slot++) {
            saved[slot] = new Craft();
        }
        isSaved = new boolean[SLOTS];
        reader = new RuleReader();
    }

    // ---- nodes and links

    public int addNode(int capacity, int temperature, int emitting, int absorbing, int load) {
        if (!within(capacity, 1, HEAT_CAPACITY_MOST)
                || !within(temperature, COLDEST, HOTTEST)
                || !within(emitting, 0, AREA_MOST)
                || !within(absorbing, 0, AREA_MOST)
                || !within(load, 0, LOAD_MOST)) {
            return OUT_OF_RANGE;
        }
        int node = craft.nodeCount;
        if (node >= NODES_MOST) {
            return FULL;
        }
        craft.nodes[node].begin(capacity, temperature, emitting, absorbing, load);
        craft.nodeCount = node + 1;
        return node;
    }

    public int nodeCount() {
        return craft.nodeCount;
    }

    public int setLimits(int node, int low, int high) {
        if (!craft.hasNode(node)) {
            return NO_SUCH_PART;
        }
        if (!within(high, COLDEST, HOTTEST) || !within(low, COLDEST, high)) {
            return OUT_OF_RANGE;
        }
        craft.nodes[node].low = low;
        craft.nodes[node].high = high;
        return 0;
    }

    public int setTemperature(int node, int temperature) {
        if (!craft.hasNode(node)) {
            return NO_SUCH_PART;
        }
        if (!within(temperature, COLDEST, HOTTEST)) {
            return OUT_OF_RANGE;
        }
        int previous = craft.nodes[node].temperature;
        craft.nodes[node].temperature = temperature;
        return previous;
    }

    public int setLoad(int node, int load) {
        if (!craft.hasNode(node)) {
            return NO_SUCH_PART;
        }
        if (!within(load, 0, LOAD_MOST)) {
            return OUT_OF_RANGE;
        }
        int previous = craft.nodes[node].load;
        craft.nodes[node].load = load;
        return previous;
    }

    public int link(int a, int b, int conductance) {
        if (!craft.hasNode(a) || !craft.hasNode(b)) {
            return NO_SUCH_PART;
        }
        if (a == b || !within(conductance, 0, CONDUCTANCE_MOST)) {
            return OUT_OF_RANGE;
        }
        int place = craft.placeOfLink(a, b);
        if (place == NONE) {
            return craft.makeLink(a, b, conductance);
        }
        int previous = craft.links[place].conductance;
        if (conductance == 0) {
            craft.dropLink(place);
        } else {
            craft.links[place].conductance = conductance;
        }
        return previous;
    }

    public int conductance(int a, int b) {
        if (!craft.hasNode(a) || !craft.hasNode(b)) {
            return NO_SUCH_PART;
        }
        int place = craft.placeOfLink(a, b);
        return place == NONE ? 0 : craft.links[place].conductance;
    }

    public int linkCount() {
        return craft.linkCount;
    }

    // ---- louvres and heaters

    public int addLouvre(int node, int area, int closed, int open, int rate) {
        if (!craft.hasNode(node)) {
            return NO_SUCH_PART;
        }
        if (!within(area, 0, AREA_MOST)
                || !within(closed, COLDEST, HOTTEST - 1)
                || !within(open, closed + 1, HOTTEST)
                || !within(rate, 1, OPENING_MOST)) {
            return OUT_OF_RANGE;
        }
        int louvre = craft.louvreCount;
        if (louvre >= LOUVRES_MOST) {
            return FULL;
        }
        craft.louvres[louvre].begin(node, area, closed, open, rate);
        craft.louvreCount = louvre + 1;
        return louvre;
    }

    public int addHeater(int node, int power, int lower, int higher, int priority) {
        if (!craft.hasNode(node)) {
            return NO_SUCH_PART;
        }
        if (!within(power, 0, HEATER_POWER_MOST)
                || !within(higher, COLDEST, HOTTEST)
                || !within(lower, COLDEST, higher)
                || !within(priority, 0, PRIORITY_MOST)) {
            return OUT_OF_RANGE;
        }
        int heater = craft.heaterCount;
        if (heater >= HEATERS_MOST) {
            return FULL;
        }
        craft.heaters[heater].begin(node, power, lower, higher, priority);
        craft.heaterCount = heater + 1;
        craft.rankHeater(heater);
        return heater;
    }

    public int louvreCount() {
        return craft.louvreCount;
    }

    public int opening(int louvre) {
        return craft.hasLouvre(louvre) ? craft.louvres[louvre].opening : NO_SUCH_PART;
    }

    public int target(int louvre) {
        return craft.hasLouvre(louvre) ? craft.targetOf(craft.louvres[louvre]) : NO_SUCH_PART;
    }

    public int isHeld(int louvre) {
        if (!craft.hasLouvre(louvre)) {
            return NO_SUCH_PART;
        }
        return craft.louvres[louvre].held ? 1 : 0;
    }

    public int heaterCount() {
        return craft.heaterCount;
    }

    public int heaterState(int heater) {
        return craft.hasHeater(heater) ? craft.heaters[heater].state : NO_SUCH_PART;
    }

    public int heaterMode(int heater) {
        return craft.hasHeater(heater) ? craft.heaters[heater].mode : NO_SUCH_PART;
    }

    public int setMode(int heater, int mode) {
        if (!craft.hasHeater(heater)) {
            return NO_SUCH_PART;
        }
        if (!within(mode, MODE_AUTOMATIC, MODE_OFF)) {
            return OUT_OF_RANGE;
        }
        int previous = craft.heaters[heater].mode;
        craft.heaters[heater].mode = mode;
        return previous;
    }

    // ---- orbit, power, time

    public int setOrbit(int period, int shadeFrom, int shadeTo, int flux, int albedo, int infrared) {
        if (!within(period, 1, PERIOD_MOST)
                || !within(shadeFrom, 0, period)
                || !within(shadeTo, shadeFrom, period)
                || !within(flux, 0, FLUX_MOST)
                || !within(albedo, 0, ALBEDO_MOST)
                || !within(infrared, 0, FLUX_MOST)) {
            return OUT_OF_RANGE;
        }
        craft.orbit.begin(period, shadeFrom, shadeTo, flux, albedo, infrared);
        return 0;
    }

    public int setPower(int array, int base, int capacity, int charge) {
        if (!within(array, 0, SUPPLY_MOST)
                || !within(base, 0, SUPPLY_MOST)
                || !within(capacity, 0, CHARGE_MOST)
                || !within(charge, 0, capacity)) {
            return OUT_OF_RANGE;
        }
        craft.supply.begin(array, base, capacity, charge);
        return 0;
    }

    public int setStepLength(int seconds) {
        if (!within(seconds, 1, STEP_LENGTH_MOST)) {
            return OUT_OF_RANGE;
        }
        int previous = craft.stepLength;
        craft.stepLength = seconds;
        return previous;
    }

    public int run(int count) {
        if (!within(count, 1, RUN_MOST) || craft.time + count * craft.stepLength > TIME_MOST) {
            return OUT_OF_RANGE;
        }
        int violated = 0;
        for (int done = 0; done < count; done++) {
            if (craft.step()) {
                violated++;
            }
        }
        return violated;
    }

    public int time() {
        return craft.time;
    }

    public int phase() {
        return craft.phaseNow();
    }

    public boolean isSunlit() {
        return craft.hasSun();
    }

    public int charge() {
        return craft.supply.charge;
    }

    public int usedPower() {
        return craft.powerInUse();
    }

    // ---- heat

    public int temperature(int node) {
        return craft.hasNode(node) ? craft.nodes[node].temperature : NO_SUCH_PART;
    }

    public int load(int node) {
        return craft.hasNode(node) ? craft.nodes[node].load : NO_SUCH_PART;
    }

    public long absorbedHeat(int node) {
        if (!craft.hasNode(node)) {
            return NO_SUCH_PART;
        }
        craft.balanceHeat();
        return craft.nodes[node].absorbed;
    }

    public long emittedHeat(int node) {
        if (!craft.hasNode(node)) {
            return NO_SUCH_PART;
        }
        craft.balanceHeat();
        return craft.nodes[node].emitted;
    }

    public long conductedHeat(int node) {
        if (!craft.hasNode(node)) {
            return NO_SUCH_PART;
        }
        craft.balanceHeat();
        return craft.nodes[node].conducted;
    }

    public long netHeat(int node) {
        if (!craft.hasNode(node)) {
            return NO_SUCH_PART;
        }
        craft.balanceHeat();
        return craft.nodes[node].gain();
    }

    public int margin(int node) {
        if (!craft.hasNode(node)) {
            return NO_SUCH_PART;
        }
        Node there = craft.nodes[node];
        return Math.min(there.temperature - there.low, there.high - there.temperature);
    }

    // ---- records

    public int resetRecords() {
        int removed = craft.records.violatorCount;
        craft.records.clear();
        for (int node = 0; node < craft.nodeCount; node++) {
            craft.nodes[node].beginRecords();
        }
        return removed;
    }

    public int lowest(int node) {
        return craft.hasNode(node) ? craft.nodes[node].lowest : NO_SUCH_PART;
    }

    public int highest(int node) {
        return craft.hasNode(node) ? craft.nodes[node].highest : NO_SUCH_PART;
    }

    public int violations(int node) {
        return craft.hasNode(node) ? craft.nodes[node].violations : NO_SUCH_PART;
    }

    public int firstViolation(int node) {
        return craft.hasNode(node) ? craft.nodes[node].firstViolation : NO_SUCH_PART;
    }

    public int violatorCount() {
        return craft.records.violatorCount;
    }

    public int violator(int index) {
        if (!within(index, 0, craft.records.violatorCount - 1)) {
            return OUT_OF_RANGE;
        }
        return craft.records.violators[index];
    }

    public int shedCount() {
        return craft.records.shed;
    }

    public long energy(int which) {
        switch (which) {
            case 0:
                return craft.records.emitted;
            case 1:
                return craft.records.absorbed;
            case 2:
                return craft.records.heated;
            default:
                return OUT_OF_RANGE;
        }
    }

    // ---- planning: everything happens in the trial craft, so that the real one stays as it is

    public int stepsToViolation(int node, int steps) {
        if (node != NONE && !craft.hasNode(node)) {
            return NO_SUCH_PART;
        }
        if (!within(steps, 1, FORECAST_MOST)) {
            return OUT_OF_RANGE;
        }
        trial.copyFrom(craft);
        for (int step = 1; step <= steps; step++) {
            boolean some = trial.step();
            if (node == NONE ? some : trial.nodes[node].isOutside()) {
                return step;
            }
        }
        return NONE;
    }

    public int extremeAhead(int node, int steps, boolean hottest) {
        if (!craft.hasNode(node)) {
            return NO_SUCH_PART;
        }
        if (!within(steps, 1, FORECAST_MOST)) {
            return OUT_OF_RANGE;
        }
        trial.copyFrom(craft);
        int extreme = hottest ? COLDEST : HOTTEST;
        for (int step = 0; step < steps; step++) {
            trial.step();
            int temperature = trial.nodes[node].temperature;
            extreme = hottest ? Math.max(extreme, temperature) : Math.min(extreme, temperature);
        }
        return extreme;
    }

    public int leastHeaterPower(int heater, int steps) {
        if (!craft.hasHeater(heater)) {
            return NO_SUCH_PART;
        }
        if (!within(steps, 1, TRIAL_MOST)) {
            return OUT_OF_RANGE;
        }
        for (int power = 0; power <= TRIAL_POWER_MOST; power += TRIAL_POWER_STRIDE) {
            trial.copyFrom(craft);
            trial.heaters[heater].power = power;
            if (trialSurvives(steps)) {
                return power;
            }
        }
        return NONE;
    }

    public int leastLouvreArea(int louvre, int steps) {
        if (!craft.hasLouvre(louvre)) {
            return NO_SUCH_PART;
        }
        if (!within(steps, 1, TRIAL_MOST)) {
            return OUT_OF_RANGE;
        }
        for (int area = 0; area <= TRIAL_AREA_MOST; area += TRIAL_AREA_STRIDE) {
            trial.copyFrom(craft);
            trial.louvres[louvre].area = area;
            if (trialSurvives(steps)) {
                return area;
            }
        }
        return NONE;
    }

    public int settlingOrbit(int tolerance, int most) {
        int stepsOfOrbit = craft.stepsOfOrbit();
        if (!within(tolerance, 0, TOLERANCE_MOST)
                || !within(most, 1, ORBITS_MOST)
                || most * stepsOfOrbit > ORBIT_STEPS_MOST) {
            return OUT_OF_RANGE;
        }
        trial.copyFrom(craft);
        for (int orbit = 1; orbit <= most; orbit++) {
            trial.rememberTemperatures();
            for (int step = 0; step < stepsOfOrbit; step++) {
                trial.step();
            }
            if (trial.isNearRemembered(tolerance)) {
                return orbit;
            }
        }
        return NONE;
    }

    private boolean trialSurvives(int steps) {
        for (int step = 0; step < steps; step++) {
            if (trial.step()) {
                return false;
            }
        }
        return true;
    }

    // ---- rules

    public int appendText(int fourBytes) {
        if (reader.length + 4 > TEXT_MOST) {
            return FULL;
        }
        for (int shift = 24; shift >= 0; shift -= 8) {
            reader.text[reader.length] = (byte) (fourBytes >> shift);
            reader.length++;
        }
        return reader.length;
    }

    public int truncateText(int length) {
        if (!within(length, 0, reader.length)) {
            return OUT_OF_RANGE;
        }
        reader.length = length;
        return length;
    }

    public int loadRules() {
        boolean fine = reader.readRules(craft.nodeCount, craft.louvreCount, craft.heaterCount);
        reader.length = 0;
        if (!fine) {
            return SYNTAX_ERROR;
        }
        craft.rules.copyFrom(reader.rules);
        return craft.rules.count;
    }

    public int errorCode() {
        return reader.error;
    }

    public int errorPosition() {
        return reader.errorAt;
    }

    public int ruleCount() {
        return craft.rules.count;
    }

    public int ruleHolds(int rule) {
        if (!within(rule, 0, craft.rules.count - 1)) {
            return OUT_OF_RANGE;
        }
        return craft.rules.isDue(rule, craft) ? 1 : 0;
    }

    // ---- saved states

    public boolean save(int slot) {
        if (!within(slot, 0, SLOTS - 1)) {
            return false;
        }
        saved[slot].copyFrom(craft);
        isSaved[slot] = true;
        return true;
    }

    public boolean restore(int slot) {
        if (!within(slot, 0, SLOTS - 1) || !isSaved[slot]) {
            return false;
        }
        craft.copyFrom(saved[slot]);
        return true;
    }

    private static boolean within(int value, int least, int most) {
        return value >= least && value <= most;
    }

    private static long limited(long value, long least, long most) {
        return value < least ? least : value > most ? most : value;
    }

    private static long quotient(long dividend, long divisor) {
        return divisor == 0 ? 0 : dividend / divisor;
    }

    /** A body with a temperature, its own records, and the heat flows of the latest balance. */
    private static final class Node {
        int capacity;
        int temperature;
        int emitting;
        int absorbing;
        int load;
        int low;
        int high;

        int lowest;
        int highest;
        int violations;
        int firstViolation;

        long area;
        long absorbed;
        long emitted;
        long conducted;
        long heated;
        int remembered;

        void begin(int capacity, int temperature, int emitting, int absorbing, int load) {
            this.capacity = capacity;
            this.temperature = temperature;
            this.emitting = emitting;
            this.absorbing = absorbing;
            this.load = load;
            low = COLDEST;
            high = HOTTEST;
            beginRecords();
        }

        void beginRecords() {
            lowest = temperature;
            highest = temperature;
            violations = 0;
            firstViolation = NONE;
        }

        // The flows and the remembered temperature are worked out anew before each use.
        void copyFrom(Node other) {
            capacity = other.capacity;
            temperature = other.temperature;
            emitting = other.emitting;
            absorbing = other.absorbing;
            load = other.load;
            low = other.low;
            high = other.high;
            lowest = other.lowest;
            highest = other.highest;
            violations = other.violations;
            firstViolation = other.firstViolation;
        }

        void emit() {
            long kelvin = (temperature + 273150) / 1000;
            emitted = area * kelvin * kelvin * kelvin * kelvin * 567 / 100000000000L;
        }

        long gain() {
            return load + heated + absorbed + conducted - emitted;
        }

        void warm(int seconds) {
            long grown = temperature + quotient(gain() * seconds, capacity);
            temperature = (int) limited(grown, COLDEST, HOTTEST);
        }

        boolean isOutside() {
            return temperature < low || temperature > high;
        }
    }

    private static final class Link {
        int a;
        int b;
        int conductance;

        void begin(int a, int b, int conductance) {
            this.a = a;
            this.b = b;
            this.conductance = conductance;
        }

        void copyFrom(Link other) {
            begin(other.a, other.b, other.conductance);
        }
    }

    private static final class Louvre {
        int node;
        int area;
        int closed;
        int open;
        int rate;
        int opening;
        boolean held;

        void begin(int node, int area, int closed, int open, int rate) {
            this.node = node;
            this.area = area;
            this.closed = closed;
            this.open = open;
            this.rate = rate;
            opening = 0;
            held = false;
        }

        void copyFrom(Louvre other) {
            begin(other.node, other.area, other.closed, other.open, other.rate);
            opening = other.opening;
            held = other.held;
        }

        void moveTowards(int target) {
            opening += (int) limited(target - opening, -rate, rate);
        }
    }

    private static final class Heater {
        int node;
        int power;
        int lower;
        int higher;
        int priority;
        int mode;
        boolean wish;
        int state;

        void begin(int node, int power, int lower, int higher, int priority) {
            this.node = node;
            this.power = power;
            this.lower = lower;
            this.higher = higher;
            this.priority = priority;
            mode = MODE_AUTOMATIC;
            wish = false;
            state = STATE_OFF;
        }

        void copyFrom(Heater other) {
            begin(other.node, other.power, other.lower, other.higher, other.priority);
            mode = other.mode;
            wish = other.wish;
            state = other.state;
        }

        // Between the switching temperatures an automatic heater keeps the wish that it had.
        void decideWish(int temperature) {
            if (mode == MODE_ON) {
                wish = true;
            } else if (mode == MODE_OFF) {
                wish = false;
            } else if (temperature < lower) {
                wish = true;
            } else if (temperature > higher) {
                wish = false;
            }
        }
    }

    private static final class Orbit {
        int period;
        int shadeFrom;
        int shadeTo;
        int flux;
        int albedo;
        int infrared;

        Orbit() {
            period = 6000;
            flux = 1361;
        }

        void begin(int period, int shadeFrom, int shadeTo, int flux, int albedo, int infrared) {
            this.period = period;
            this.shadeFrom = shadeFrom;
            this.shadeTo = shadeTo;
            this.flux = flux;
            this.albedo = albedo;
            this.infrared = infrared;
        }

        void copyFrom(Orbit other) {
            begin(other.period, other.shadeFrom, other.shadeTo, other.flux, other.albedo, other.infrared);
        }

        long heatInto(Node node, boolean sun) {
            long heat = (long) node.emitting * infrared / 10;
            if (sun) {
                long direct = (long) node.absorbing * flux;
                heat += direct / 10 + direct * albedo / 1000;
            }
            return heat;
        }
    }

    /** The solar array, the base load and the battery. */
    private static final class Supply {
        int array;
        int base;
        int capacity;
        int charge;

        void begin(int array, int base, int capacity, int charge) {
            this.array = array;
            this.base = base;
            this.capacity = capacity;
            this.charge = charge;
        }

        void copyFrom(Supply other) {
            begin(other.array, other.base, other.capacity, other.charge);
        }
    }

    /** The records of the whole craft; those of a single node are in the node. */
    private static final class Records {
        final int[] violators = new int[NODES_MOST];
        int violatorCount;
        int shed;
        long emitted;
        long absorbed;
        long heated;

        void clear() {
            violatorCount = 0;
            shed = 0;
            emitted = 0;
            absorbed = 0;
            heated = 0;
        }

        void copyFrom(Records other) {
            System.arraycopy(other.violators, 0, violators, 0, NODES_MOST);
            violatorCount = other.violatorCount;
            shed = other.shed;
            emitted = other.emitted;
            absorbed = other.absorbed;
            heated = other.heated;
        }

        void addViolator(int node) {
            if (violatorCount < NODES_MOST) {
                violators[violatorCount] = node;
                violatorCount++;
            }
        }
    }

    /** All that a saved state holds. Rows are made once, since what a run makes is counted. */
    private static final class Craft {
        final Node[] nodes = new Node[NODES_MOST];
        final Link[] links = new Link[LINKS_MOST];
        final Louvre[] louvres = new Louvre[LOUVRES_MOST];
        final Heater[] heaters = new Heater[HEATERS_MOST];
        final int[] ranking = new int[HEATERS_MOST];
        int nodeCount;
        int linkCount;
        int louvreCount;
        int heaterCount;
        final Orbit orbit = new Orbit();
        final Supply supply = new Supply();
        final Records records = new Records();
        final Rules rules = new Rules();
        int stepLength = 10;
        int time;

        Craft() {
            for (int i = 0; i < NODES_MOST; i++) {
                nodes[i] = new Node();
            }
            for (int i = 0; i < LINKS_MOST; i++) {
                links[i] = new Link();
            }
            for (int i = 0; i < LOUVRES_MOST; i++) {
                louvres[i] = new Louvre();
            }
            for (int i = 0; i < HEATERS_MOST; i++) {
                heaters[i] = new Heater();
            }
        }

        void copyFrom(Craft other) {
            nodeCount = other.nodeCount;
            for (int i = 0; i < nodeCount; i++) {
                nodes[i].copyFrom(other.nodes[i]);
            }
            linkCount = other.linkCount;
            for (int i = 0; i < linkCount; i++) {
                links[i].copyFrom(other.links[i]);
            }
            louvreCount = other.louvreCount;
            for (int i = 0; i < louvreCount; i++) {
                louvres[i].copyFrom(other.louvres[i]);
            }
            heaterCount = other.heaterCount;
            for (int i = 0; i < heaterCount; i++) {
                heaters[i].copyFrom(other.heaters[i]);
                ranking[i] = other.ranking[i];
            }
            orbit.copyFrom(other.orbit);
            supply.copyFrom(other.supply);
            records.copyFrom(other.records);
            rules.copyFrom(other.rules);
            stepLength = other.stepLength;
            time = other.time;
        }

        boolean hasNode(int node) {
            return node >= 0 && node < nodeCount;
        }

        boolean hasLouvre(int louvre) {
            return louvre >= 0 && louvre < louvreCount;
        }

        boolean hasHeater(int heater) {
            return heater >= 0 && heater < heaterCount;
        }

        int placeOfLink(int a, int b) {
            for (int i = 0; i < linkCount; i++) {
                Link link = links[i];
                if (link.a == a && link.b == b || link.a == b && link.b == a) {
                    return i;
                }
            }
            return NONE;
        }

        int makeLink(int a, int b, int conductance) {
            if (conductance == 0) {
                return 0;
            }
            if (linkCount >= LINKS_MOST) {
                return FULL;
            }
            links[linkCount].begin(a, b, conductance);
            linkCount++;
            return 0;
        }

        // The order of the links has no meaning, so the last one may fill the gap.
        void dropLink(int place) {
            if (place >= 0 && place < linkCount) {
                linkCount--;
                links[place].copyFrom(links[linkCount]);
            }
        }

        // The newest heater has the greatest number and so comes after all of its own priority.
        void rankHeater(int newest) {
            int place = 0;
            for (int i = 0; i < newest; i++) {
                if (heaters[i].priority >= heaters[newest].priority) {
                    place++;
                }
            }
            System.arraycopy(ranking, place, ranking, place + 1, newest - place);
            ranking[place] = newest;
        }

        int phaseNow() {
            return orbit.period > 0 ? time % orbit.period : 0;
        }

        boolean hasSun() {
            int phase = phaseNow();
            return phase < orbit.shadeFrom || phase >= orbit.shadeTo;
        }

        int stepsOfOrbit() {
            return (int) quotient(orbit.period + stepLength - 1, stepLength);
        }

        int temperatureAt(int node) {
            return hasNode(node) ? nodes[node].temperature : 0;
        }

        int targetOf(Louvre louvre) {
            long above = temperatureAt(louvre.node) - louvre.closed;
            return (int) limited(quotient(above * OPENING_MOST, louvre.open - louvre.closed), 0, OPENING_MOST);
        }

        int powerInUse() {
            int sum = 0;
            for (int i = 0; i < heaterCount; i++) {
                if (heaters[i].state == STATE_ON) {
                    sum += heaters[i].power;
                }
            }
            return sum;
        }

        /** Carries out a step and tells whether some node had a violation in it. */
        boolean step() {
            for (int rule = 0; rule < rules.count; rule++) {
                if (rules.isDue(rule, this)) {
                    rules.act(rule, this);
                }
            }
            moveLouvres();
            decideWishes();
            sharePower();
            balanceHeat();
            warmNodes();
            time += stepLength;
            return recordTemperatures();
        }

        private void moveLouvres() {
            for (int i = 0; i < louvreCount; i++) {
                if (!louvres[i].held) {
                    louvres[i].moveTowards(targetOf(louvres[i]));
                }
            }
        }

        private void decideWishes() {
            for (int i = 0; i < heaterCount; i++) {
                heaters[i].decideWish(temperatureAt(heaters[i].node));
            }
        }

        private void sharePower() {
            long income = (hasSun() ? supply.array : 0) - supply.base;
            long available = Math.max(0, quotient(supply.charge, stepLength) + income);
            long used = 0;
            for (int i = 0; i < heaterCount; i++) {
                int next = ranking[i];
                if (hasHeater(next)) {
                    used += switchHeater(heaters[next], available - used);
                }
            }
            records.heated += stepLength * used;
            long charge = supply.charge + stepLength * (income - used);
            supply.charge = (int) limited(charge, 0, supply.capacity);
        }

        private int switchHeater(Heater heater, long available) {
            if (!heater.wish) {
                heater.state = STATE_OFF;
                return 0;
            }
            if (heater.power > available) {
                heater.state = STATE_SHED;
                records.shed++;
                return 0;
            }
            heater.state = STATE_ON;
            return heater.power;
        }

        /** Works out the heat flows of all nodes at once from the present state. */
        void balanceHeat() {
            boolean sun = hasSun();
            for (int i = 0; i < nodeCount; i++) {
                Node node = nodes[i];
                node.area = node.emitting;
                node.absorbed = orbit.heatInto(node, sun);
                node.conducted = 0;
                node.heated = 0;
            }
            for (int i = 0; i < louvreCount; i++) {
                Louvre louvre = louvres[i];
                if (hasNode(louvre.node)) {
                    nodes[louvre.node].area += louvre.area * louvre.opening / OPENING_MOST;
                }
            }
            for (int i = 0; i < heaterCount; i++) {
                Heater heater = heaters[i];
                if (heater.state == STATE_ON && hasNode(heater.node)) {
                    nodes[heater.node].heated += heater.power;
                }
            }
            for (int i = 0; i < linkCount; i++) {
                conductThrough(links[i]);
            }
            for (int i = 0; i < nodeCount; i++) {
                nodes[i].emit();
            }
        }

        // Truncation towards zero makes both ends of a link see the same flow.
        private void conductThrough(Link link) {
            if (hasNode(link.a) && hasNode(link.b)) {
                Node a = nodes[link.a];
                Node b = nodes[link.b];
                long flow = (long) link.conductance * (b.temperature - a.temperature) / 1000;
                a.conducted += flow;
                b.conducted -= flow;
            }
        }

        private void warmNodes() {
            for (int i = 0; i < nodeCount; i++) {
                Node node = nodes[i];
                records.emitted += stepLength * node.emitted;
                records.absorbed += stepLength * node.absorbed;
                node.warm(stepLength);
            }
        }

        private boolean recordTemperatures() {
            boolean some = false;
            for (int i = 0; i < nodeCount; i++) {
                Node node = nodes[i];
                node.lowest = Math.min(node.lowest, node.temperature);
                node.highest = Math.max(node.highest, node.temperature);
                if (node.isOutside()) {
                    some = true;
                    if (node.violations == 0) {
                        node.firstViolation = time;
                        records.addViolator(i);
                    }
                    node.violations++;
                }
            }
            return some;
        }

        void rememberTemperatures() {
            for (int i = 0; i < nodeCount; i++) {
                nodes[i].remembered = nodes[i].temperature;
            }
        }

        boolean isNearRemembered(int tolerance) {
            for (int i = 0; i < nodeCount; i++) {
                if (Math.abs(nodes[i].temperature - nodes[i].remembered) > tolerance) {
                    return false;
                }
            }
            return true;
        }
    }

    /**
     * Rules as a program for a stack of values: each code is named by the token that it comes from.
     * The test of a rule stands from testFrom to testTo (nothing if it has none), its sum from there to sumTo.
     */
    private static final class Rules {
        final int[] codes = new int[TEXT_MOST];
        final int[] arguments = new int[TEXT_MOST];
        final int[] testFrom = new int[RULES_MOST];
        final int[] testTo = new int[RULES_MOST];
        final int[] sumTo = new int[RULES_MOST];
        final int[] actions = new int[RULES_MOST];
        final int[] parts = new int[RULES_MOST];
        int size;
        int count;

        // Of each of the 21 nested sums two values wait, and one of the comparison: 64 are enough.
        private final long[] stack = new long[64];

        void copyFrom(Rules other) {
            size = other.size;
            System.arraycopy(other.codes, 0, codes, 0, size);
            System.arraycopy(other.arguments, 0, arguments, 0, size);
            count = other.count;
            System.arraycopy(other.testFrom, 0, testFrom, 0, count);
            System.arraycopy(other.testTo, 0, testTo, 0, count);
            System.arraycopy(other.sumTo, 0, sumTo, 0, count);
            System.arraycopy(other.actions, 0, actions, 0, count);
            System.arraycopy(other.parts, 0, parts, 0, count);
        }

        // Each code comes from a token of its own, so the room for a whole text is never exceeded.
        void emitCode(int code, int argument) {
            if (size < TEXT_MOST) {
                codes[size] = code;
                arguments[size] = argument;
                size++;
            }
        }

        boolean isDue(int rule, Craft craft) {
            return evaluate(testFrom[rule], testTo[rule], craft) != 0;
        }

        void act(int rule, Craft craft) {
            int part = parts[rule];
            int action = actions[rule];
            if (action == LOAD) {
                if (craft.hasNode(part)) {
                    long sum = evaluate(testTo[rule], sumTo[rule], craft);
                    craft.nodes[part].load = (int) limited(sum, 0, LOAD_MOST);
                }
            } else if (action == HOLD || action == FREE) {
                if (craft.hasLouvre(part)) {
                    craft.louvres[part].held = action == HOLD;
                }
            } else if (craft.hasHeater(part)) {
                craft.heaters[part].mode = action == ON ? MODE_ON : action == OFF ? MODE_OFF : MODE_AUTOMATIC;
            }
        }

        // A test that is not there holds; a sum is never without codes.
        private long evaluate(int from, int to, Craft craft) {
            if (from == to) {
                return 1;
            }
            int depth = 0;
            boolean skipping = false;
            for (int i = from; i < to; i++) {
                int code = codes[i];
                if (skipping) {
                    skipping = code != OR;
                } else if (code == AND || code == OR) {
                    boolean holds = depth > 0 && stack[depth - 1] != 0;
                    if (holds && code == OR) {
                        return 1;
                    }
                    skipping = !holds && code == AND;
                    depth = 0;
                } else if (code == NOT || code == NEGATE) {
                    if (depth > 0) {
                        stack[depth - 1] = (code == NOT ? 1 : 0) - stack[depth - 1];
                    }
                } else if (code >= NUMBER) {
                    if (depth < stack.length) {
                        stack[depth] = valueOf(code, arguments[i], craft);
                        depth++;
                    }
                } else if (depth > 1) {
                    depth--;
                    stack[depth - 1] = operate(code, stack[depth - 1], stack[depth]);
                }
            }
            return depth > 0 ? stack[depth - 1] : 0;
        }

        private static long valueOf(int code, int argument, Craft craft) {
            switch (code) {
                case NUMBER:
                    return argument;
                case TEMP:
                    return craft.temperatureAt(argument);
                case OPEN:
                    return craft.hasLouvre(argument) ? craft.louvres[argument].opening : 0;
                case STATE:
                    return craft.hasHeater(argument) ? craft.heaters[argument].state : 0;
                case SUN:
                    return craft.hasSun() ? 1 : 0;
                case PHASE:
                    return craft.phaseNow();
                case CHARGE:
                    return craft.supply.charge;
                case USED:
                    return craft.powerInUse();
                default:
                    return 0;
            }
        }

        private static long operate(int code, long left, long right) {
            switch (code) {
                case '<':
                    return left < right ? 1 : 0;
                case '>':
                    return left > right ? 1 : 0;
                case '=':
                    return left == right ? 1 : 0;
                case '+':
                    return limited(left + right, -SUM_MOST, SUM_MOST);
                case '-':
                    return limited(left - right, -SUM_MOST, SUM_MOST);
                case '*':
                    return product(left, right);
                case '/':
                    return quotient(left, right);
                default:
                    return 0;
            }
        }

        // The exact product may need more than 64 bits, so its size is looked at before it is made.
        private static long product(long left, long right) {
            if (left == 0 || Math.abs(right) <= SUM_MOST / Math.abs(left)) {
                return left * right;
            }
            return left < 0 == right < 0 ? SUM_MOST : -SUM_MOST;
        }
    }

    /** The text buffer, and what reads rules from it. */
    private static final class RuleReader {
        final byte[] text = new byte[TEXT_MOST];
        int length;
        int error;
        int errorAt = NONE;
        final Rules rules = new Rules();

        private final int[] kinds = new int[TEXT_MOST + 1];
        private final int[] starts = new int[TEXT_MOST + 1];
        private final int[] values = new int[TEXT_MOST + 1];
        private int tokenCount;
        private int at;
        private int nodeCount;
        private int louvreCount;
        private int heaterCount;
        private int number;

        boolean readRules(int nodeCount, int louvreCount, int heaterCount) {
            this.nodeCount = nodeCount;
            this.louvreCount = louvreCount;
            this.heaterCount = heaterCount;
            error = 0;
            errorAt = NONE;
            rules.size = 0;
            rules.count = 0;
            splitText();
            at = 0;
            for (int rule = 0; rule < RULES_MOST && kind() != END; rule++) {
                if (!readTest(rule) || !readAction(rule) || !take(';')) {
                    return false;
                }
                rules.count = rule + 1;
            }
            if (kind() == END) {
                return true;
            }
            boolean beginsRule = kind() == WHEN || kind() == HEATER || kind() == LOUVRE || kind() == LOAD;
            return fail(beginsRule ? TOO_MANY_RULES : NOT_ALLOWED);
        }

        // Nothing comes after an unknown token that could matter, so the splitting ends there too.
        private void splitText() {
            int from = 0;
            boolean more = true;
            for (tokenCount = 0; more && tokenCount <= TEXT_MOST; tokenCount++) {
                from = skipBlanks(from);
                int to = endOfToken(from);
                kinds[tokenCount] = kindOf(from, to);
                starts[tokenCount] = from;
                values[tokenCount] = numberIn(from, to);
                more = kinds[tokenCount] != END && kinds[tokenCount] != UNKNOWN;
                from = to;
            }
        }

        private int skipBlanks(int from) {
            int to = from;
            while (to < length && (text[to] == ' ' || text[to] == '\n')) {
                to++;
            }
            return to;
        }

        private int endOfToken(int from) {
            if (from >= length) {
                return from;
            }
            int to = from + 1;
            while (to < length && (isLetter(text[from]) && isLetter(text[to]) || isDigit(text[from]) && isDigit(text[to]))) {
                to++;
            }
            return to;
        }

        private static boolean isLetter(byte sign) {
            return sign >= 'a' && sign <= 'z';
        }

        private static boolean isDigit(byte sign) {
            return sign >= '0' && sign <= '9';
        }

        private int kindOf(int from, int to) {
            if (from >= to) {
                return END;
            }
            byte first = text[from];
            if (isDigit(first)) {
                return NUMBER;
            }
            if (isLetter(first)) {
                return kindOfWord(from, to);
            }
            return SYMBOLS.indexOf((char) (first & 255)) >= 0 ? first : UNKNOWN;
        }

        private int kindOfWord(int from, int to) {
            int kind = WHEN;
            int begin = 0;
            for (int end = 0; end < WORDS.length(); end++) {
                if (WORDS.charAt(end) == ' ') {
                    if (isWord(begin, end, from, to)) {
                        return kind;
                    }
                    kind++;
                    begin = end + 1;
                }
            }
            return UNKNOWN;
        }

        private boolean isWord(int begin, int end, int from, int to) {
            if (end - begin != to - from) {
                return false;
            }
            for (int i = 0; i < end - begin; i++) {
                if (WORDS.charAt(begin + i) != text[from + i]) {
                    return false;
                }
            }
            return true;
        }

        // A number that is too great stays too great, however many digits follow.
        private int numberIn(int from, int to) {
            int value = 0;
            for (int i = from; i < to && isDigit(text[i]); i++) {
                value = Math.min(value * 10 + text[i] - '0', NUMBER_MOST + 1);
            }
            return value;
        }

        private int kind() {
            return at < tokenCount ? kinds[at] : END;
        }

        private boolean fail(int code) {
            error = code;
            errorAt = at < tokenCount ? starts[at] : length;
            return false;
        }

        private boolean take(int wanted) {
            if (kind() != wanted) {
                return fail(NOT_ALLOWED);
            }
            at++;
            return true;
        }

        // What is emitted for a text with an error is never used, so nothing guards the emitting.
        private boolean readTest(int rule) {
            rules.testFrom[rule] = rules.size;
            boolean isThere = kind() == WHEN;
            boolean fine = true;
            boolean more = isThere;
            for (int read = 0; fine && more && read < TEXT_MOST; read++) {
                at++;
                boolean denied = kind() == NOT;
                if (denied) {
                    at++;
                }
                fine = readSum(0);
                int comparison = kind();
                fine = fine && takeComparison() && readSum(0);
                rules.emitCode(comparison, 0);
                if (denied) {
                    rules.emitCode(NOT, 0);
                }
                more = kind() == AND || kind() == OR;
                if (more) {
                    rules.emitCode(kind(), 0);
                }
            }
            rules.testTo[rule] = rules.size;
            return fine && (!isThere || take(':'));
        }

        private boolean takeComparison() {
            if (kind() != '<' && kind() != '>' && kind() != '=') {
                return fail(NOT_ALLOWED);
            }
            at++;
            return true;
        }

        private boolean readSum(int level) {
            boolean fine = readProduct(level);
            for (int read = 0; fine && read < TEXT_MOST && (kind() == '+' || kind() == '-'); read++) {
                int operator = kind();
                at++;
                fine = readProduct(level);
                rules.emitCode(operator, 0);
            }
            return fine;
        }

        private boolean readProduct(int level) {
            boolean fine = readFactor(level);
            for (int read = 0; fine && read < TEXT_MOST && (kind() == '*' || kind() == '/'); read++) {
                int operator = kind();
                at++;
                fine = readFactor(level);
                rules.emitCode(operator, 0);
            }
            return fine;
        }

        private boolean readFactor(int level) {
            int kind = kind();
            if (kind == '-' || kind == '(') {
                if (level >= LEVELS_MOST) {
                    return fail(TOO_DEEP);
                }
                at++;
                if (kind == '(') {
                    return readSum(level + 1) && take(')');
                }
                boolean fine = readFactor(level + 1);
                rules.emitCode(NEGATE, 0);
                return fine;
            }
            boolean fine = true;
            number = 0;
            switch (kind) {
                case NUMBER:
                    fine = takeNumber(NUMBER_MOST + 1);
                    break;
                case TEMP:
                    at++;
                    fine = takeNumber(nodeCount);
                    break;
                case OPEN:
                    at++;
                    fine = takeNumber(louvreCount);
                    break;
                case STATE:
                    at++;
                    fine = takeNumber(heaterCount);
                    break;
                case SUN:
                case PHASE:
                case CHARGE:
                case USED:
                    at++;
                    break;
                default:
                    return fail(NOT_ALLOWED);
            }
            rules.emitCode(kind, number);
            return fine;
        }

        // Takes a number from 0 to (count - 1).
        private boolean takeNumber(int count) {
            if (kind() != NUMBER) {
                return fail(NOT_ALLOWED);
            }
            number = values[at];
            if (number >= count) {
                return fail(WRONG_NUMBER);
            }
            at++;
            return true;
        }

        private boolean readAction(int rule) {
            int kind = kind();
            if (kind != HEATER && kind != LOUVRE && kind != LOAD) {
                return fail(NOT_ALLOWED);
            }
            at++;
            if (!takeNumber(kind == HEATER ? heaterCount : kind == LOUVRE ? louvreCount : nodeCount)) {
                return false;
            }
            rules.parts[rule] = number;
            boolean fine;
            if (kind == LOAD) {
                rules.actions[rule] = LOAD;
                fine = take('=') && readSum(0);
            } else {
                rules.actions[rule] = kind();
                fine = kind == HEATER ? takeWord(ON, AUTO) : takeWord(HOLD, FREE);
            }
            rules.sumTo[rule] = rules.size;
            return fine;
        }

        private boolean takeWord(int least, int most) {
            if (!within(kind(), least, most)) {
                return fail(NOT_ALLOWED);
            }
            at++;
            return true;
        }
    }
}
