/** The boundary cases that the sections of the description name, from 'Units' to 'Records', in their order. */
public final class DescriptionBoundsTest {
    private static final int GONE = LouvreCraft.NO_SUCH_PART;
    private static final int FULL = LouvreCraft.FULL;

    public static void main(String[] args) {
        temperaturesStayInTheirRange();
        divisionsTruncateTowardsZero();
        greatestHeatFits();
        twelveNodes();
        firstLimits();
        oneLinkOfTwoNodes();
        twentyFourLinks();
        sixLouvres();
        louvreAtFirst();
        targetIsLimited();
        eightHeaters();
        heaterAtFirst();
        orbitAtFirst();
        phaseWrapsAround();
        shadeBeginsAndEnds();
        powerAtFirst();
        stepLengthAtFirst();
        rulesComeFirst();
        openingMovesByItsRate();
        heldLouvreStays();
        wishBelowLowerAndAboveHigher();
        wishOfModes();
        availablePowerIsNotNegative();
        availablePowerIsEnough();
        chargeOverStepLength();
        arrayInTheSunAlone();
        priorityAndNumber();
        shedHeaterLeavesThePower();
        chargeIsLimited();
        heatIsThatBeforeTheStep();
        absorbedHeatInTheSunAndShade();
        conductedHeatOfNoLink();
        emittedHeatOfWholeKelvins();
        openingsAreTruncated();
        limitsAreNoViolation();
        violatorOnce();
        violatorsOfAStepByNumber();
        shedForEachHeaterAndStep();
        energiesOfAllNodes();
        Check.finish();
    }

    private static LouvreCraft withNode(int capacity, int temperature) {
        LouvreCraft x = new LouvreCraft();
        x.addNode(capacity, temperature, 0, 0, 0);
        return x;
    }

    private static long emission(long area, long kelvin) {
        return area * kelvin * kelvin * kelvin * kelvin * 567 / 100000000000L;
    }

    /** "Every temperature grows by net heat * D / heat capacity, and is limited to the range of temperatures." */
    static void temperaturesStayInTheirRange() {
        LouvreCraft x = withNode(1000, 199990);
        x.setLoad(0, 900);
        x.run(1);
        Check.due("just below", 199999, x.temperature(0));
        x.setLoad(0, 100);
        x.run(1);
        Check.due("exactly the hottest", 200000, x.temperature(0));
        x.run(1);
        Check.due("not above", 200000, x.temperature(0));
        Check.due("the records neither", 200000, x.highest(0));
        Check.due("no violation", 0, x.violations(0));
        LouvreCraft y = withNode(100000, -199999);
        y.addNode(100000, -200000, 0, 0, 0);
        y.link(0, 1, 10000);
        y.run(1);
        Check.due("as it was, for 10 * 10 / 100000 is 0", -199999, y.temperature(0));
        y.setStepLength(60);
        y.setTemperature(0, -199000);
        y.link(0, 1, 100000);
        y.run(1);
        Check.due("60 colder", -199060, y.temperature(0));
        LouvreCraft cold = withNode(1, -200000);
        cold.addNode(100000, 0, 0, 0, 0);
        cold.setTemperature(0, -100000);
        cold.setTemperature(1, -200000);
        cold.link(0, 1, 100000);
        cold.run(1);
        Check.due("not below", -200000, cold.temperature(0));
        Check.due("the records neither", -200000, cold.lowest(0));
        Check.due("no violation", 0, cold.violations(0));
    }

    /** "All divisions truncate towards zero." */
    static void divisionsTruncateTowardsZero() {
        LouvreCraft x = withNode(1000, 0);
        x.addNode(1000, 0, 0, 0, 0);
        x.link(0, 1, 199);
        x.setTemperature(1, 1005);
        Check.due("199.995 in", 199, x.conductedHeat(0));
        Check.due("199.995 out", -199, x.conductedHeat(1));
        x.run(1);
        Check.due("1.99 more", 1, x.temperature(0));
        Check.due("1.99 less", 1004, x.temperature(1));
        LouvreCraft y = withNode(1, 0);
        y.addLouvre(0, 0, 0, 3000, 1);
        y.setTemperature(0, 2999);
        Check.due("999.67", 999, y.target(0));
    }

    /** "No intermediate result exceeds 64 bits": the greatest area at the highest temperature, in all nodes. */
    static void greatestHeatFits() {
        LouvreCraft x = new LouvreCraft();
        x.addNode(100000, 200000, 10000, 10000, 1000000);
        for (int louvre = 0; louvre < 6; louvre++) {
            x.addLouvre(0, 10000, -200000, -199999, 1000);
        }
        x.setStepLength(60);
        x.setOrbit(1, 0, 0, 10000, 100, 10000);
        x.run(1);
        x.setTemperature(0, 200000);
        Check.due("emittedHeat", emission(70000, 473), x.emittedHeat(0));
        Check.due("absorbedHeat", 30000000, x.absorbedHeat(0));
        Check.due("netHeat", 31000000 - emission(70000, 473), x.netHeat(0));
        Check.due("energy", 60 * emission(70000, 473), x.energy(0));
        LouvreCraft y = withNode(1, -200000);
        y.setStepLength(60);
        for (int node = 1; node < 12; node++) {
            y.addNode(100000, 200000, 0, 0, 0);
            y.link(0, node, 100000);
        }
        Check.due("conductedHeat", 11 * 40000000L, y.conductedHeat(0));
        y.run(1);
        Check.due("26400000000 more than the coldest is the hottest", 200000, y.temperature(0));
    }

    /** "There are at most 12 nodes, numbered from 0." */
    static void twelveNodes() {
        LouvreCraft x = new LouvreCraft();
        for (int node = 0; node < 12; node++) {
            Check.due("number", node, x.addNode(1, node, 0, 0, 0));
        }
        Check.due("13th", FULL, x.addNode(1, 0, 0, 0, 0));
        Check.due("first", 0, x.temperature(0));
        Check.due("last", 11, x.temperature(11));
        Check.due("none", GONE, x.temperature(12));
    }

    /** "Survival limits (.. at first -200000 and 200000)" */
    static void firstLimits() {
        LouvreCraft x = withNode(1, -200000);
        Check.due("at the lowest limit", 0, x.margin(0));
        Check.due("no violation", 0, x.run(1));
        x.setTemperature(0, -199999);
        Check.due("next to the lowest limit", 1, x.margin(0));
        x.setTemperature(0, 199999);
        Check.due("next to the highest limit", 1, x.margin(0));
        x.setTemperature(0, 200000);
        Check.due("at the highest limit", 0, x.margin(0));
        Check.due("no violation", 0, x.run(1));
    }

    /** "Two different nodes have at most one link." */
    static void oneLinkOfTwoNodes() {
        LouvreCraft x = withNode(1000, 0);
        x.addNode(1000, 1000, 0, 0, 0);
        x.link(0, 1, 3);
        x.link(1, 0, 5);
        x.link(0, 1, 7);
        Check.due("linkCount", 1, x.linkCount());
        Check.due("conductedHeat", 7, x.conductedHeat(0));
        Check.due("conductedHeat", -7, x.conductedHeat(1));
    }

    /** "There are at most 24 links." */
    static void twentyFourLinks() {
        LouvreCraft x = Twins.full();
        Check.due("25th", FULL, x.link(0, 2, 1));
        int links = 0;
        for (int a = 0; a < 12; a++) {
            for (int b = a + 1; b < 12; b++) {
                links += x.conductance(a, b) > 0 ? 1 : 0;
            }
        }
        Check.due("links", 24, links);
    }

    /** "There are at most 6 louvres, numbered from 0." */
    static void sixLouvres() {
        LouvreCraft x = withNode(1, 0);
        for (int louvre = 0; louvre < 6; louvre++) {
            Check.due("number", louvre, x.addLouvre(0, 0, -1000, 1000, louvre + 1));
        }
        Check.due("7th", FULL, x.addLouvre(0, 0, -1000, 1000, 7));
        x.run(1);
        Check.due("first", 1, x.opening(0));
        Check.due("last", 6, x.opening(5));
        Check.due("none", GONE, x.opening(6));
    }

    /** "An opening (0 to 1000, at first 0), and it is free (at first) or held." */
    static void louvreAtFirst() {
        LouvreCraft x = withNode(1, 0);
        x.addLouvre(0, 10000, -2, -1, 1000);
        Check.due("opening", 0, x.opening(0));
        Check.due("isHeld", 0, x.isHeld(0));
        Check.due("target", 1000, x.target(0));
        Check.due("emittedHeat", 0, x.emittedHeat(0));
        x.run(1);
        Check.due("free, so it opens", 1000, x.opening(0));
        x.setTemperature(0, 0);
        x.run(1);
        Check.due("not more than 1000", 1000, x.opening(0));
        x.setTemperature(0, -200000);
        x.run(2);
        Check.due("not less than 0", 0, x.opening(0));
    }

    /** "Its target .. is (T - closed) * 1000 / (open - closed), but 0 at least and 1000 at most." */
    static void targetIsLimited() {
        LouvreCraft x = withNode(1, 0);
        x.addLouvre(0, 0, -1000, 1000, 1);
        int[][] temperatureAndTarget = {{-200000, 0}, {-1001, 0}, {-1000, 0}, {-999, 0}, {-998, 1}, {0, 500}, {997, 998}, {998, 999},
            {999, 999}, {1000, 1000}, {1001, 1000}, {200000, 1000}};
        for (int[] pair : temperatureAndTarget) {
            x.setTemperature(0, pair[0]);
            Check.due("target at " + pair[0], pair[1], x.target(0));
        }
        x.addLouvre(0, 0, -200000, 200000, 1);
        int[][] widest = {{-200000, 0}, {-199601, 0}, {-199600, 1}, {0, 500}, {199599, 998}, {199600, 999}, {199999, 999}, {200000, 1000}};
        for (int[] pair : widest) {
            x.setTemperature(0, pair[0]);
            Check.due("target at " + pair[0], pair[1], x.target(1));
        }
    }

    /** "There are at most 8 heaters, numbered from 0." */
    static void eightHeaters() {
        LouvreCraft x = withNode(1, 0);
        for (int heater = 0; heater < 8; heater++) {
            Check.due("number", heater, x.addHeater(0, 0, 0, 0, 9 - heater));
        }
        Check.due("9th", FULL, x.addHeater(0, 0, 0, 0, 0));
        x.setMode(7, 1);
        x.run(1);
        Check.due("first", 0, x.heaterState(0));
        Check.due("last", 1, x.heaterState(7));
        Check.due("none", GONE, x.heaterState(8));
    }

    /** "A mode (0 .. is the first mode ..), a wish (no at first), and a state (0 off, which is the first state ..)" */
    static void heaterAtFirst() {
        LouvreCraft x = withNode(1, 0);
        x.addHeater(0, 0, -1000, 1000, 0);
        Check.due("mode", 0, x.heaterMode(0));
        Check.due("state", 0, x.heaterState(0));
        x.run(1);
        Check.due("no wish", 0, x.heaterState(0));
    }

    /** "A period (at first 6000), a shade .. (at first 0 and 0), a sun flux (at first 1361), an albedo and an infrared flux of 0." */
    static void orbitAtFirst() {
        LouvreCraft x = new LouvreCraft();
        x.addNode(100000, 0, 1000, 10, 0);
        Check.due("sun at phase 0", true, x.isSunlit());
        Check.due("absorbedHeat", 1361, x.absorbedHeat(0));
        x.setStepLength(60);
        x.run(99);
        Check.due("phase", 5940, x.phase());
        Check.due("sun", true, x.isSunlit());
        x.run(1);
        Check.due("phase", 0, x.phase());
        x.run(1);
        Check.due("phase", 60, x.phase());
    }

    /** "The phase is the time modulo the period." */
    static void phaseWrapsAround() {
        LouvreCraft x = new LouvreCraft();
        x.setStepLength(1);
        x.setOrbit(3, 0, 0, 0, 0, 0);
        int[] phases = {0, 1, 2, 0, 1, 2, 0};
        for (int second = 0; second < phases.length; second++) {
            Check.due("phase at " + second, phases[second], x.phase());
            x.run(1);
        }
        x.setStepLength(60);
        x.setOrbit(7, 0, 0, 0, 0, 0);
        x.run(1);
        Check.due("time", 67, x.time());
        Check.due("a step of many periods", 4, x.phase());
        x.setOrbit(68, 0, 0, 0, 0, 0);
        Check.due("just before the end", 67, x.phase());
        x.setOrbit(67, 0, 0, 0, 0, 0);
        Check.due("just at the end", 0, x.phase());
    }

    /** "There is shade if the phase is at least the beginning of the shade and less than its end; otherwise there is sun." */
    static void shadeBeginsAndEnds() {
        LouvreCraft x = new LouvreCraft();
        x.setStepLength(1);
        x.setOrbit(6, 2, 4, 0, 0, 0);
        boolean[] sun = {true, true, false, false, true, true, true, true, false, false, true};
        for (int second = 0; second < sun.length; second++) {
            Check.due("sun at " + second, sun[second], x.isSunlit());
            x.run(1);
        }
        LouvreCraft y = new LouvreCraft();
        y.setStepLength(1);
        y.setOrbit(3, 2, 3, 0, 0, 0);
        boolean[] last = {true, true, false, true, true, false};
        for (int second = 0; second < last.length; second++) {
            Check.due("sun at " + second, last[second], y.isSunlit());
            y.run(1);
        }
        y.setOrbit(3, 0, 1, 0, 0, 0);
        boolean[] first = {false, true, true, false};
        for (int second = 0; second < first.length; second++) {
            Check.due("sun with a shade at the beginning", first[second], y.isSunlit());
            y.run(1);
        }
        y.setOrbit(100, 10, 10, 0, 0, 0);
        Check.due("time", 10, y.time());
        Check.due("a shade of no length", true, y.isSunlit());
    }

    /** "The power of the solar array (at first 0), a base load, a battery capacity and a charge (at first 0)." */
    static void powerAtFirst() {
        LouvreCraft x = withNode(1, 0);
        x.addHeater(0, 1, 1000, 1000, 0);
        x.addHeater(0, 0, 1000, 1000, 0);
        x.run(1);
        Check.due("not even 1", 2, x.heaterState(0));
        Check.due("0 is there", 1, x.heaterState(1));
        Check.due("charge", 0, x.charge());
        Check.due("usedPower", 0, x.usedPower());
    }

    /** "A step lasts D seconds (at first 10)." "The time grows by D." */
    static void stepLengthAtFirst() {
        LouvreCraft x = new LouvreCraft();
        x.run(1);
        Check.due("time", 10, x.time());
        Check.due("D", 10, x.setStepLength(59));
        x.run(2);
        Check.due("time", 128, x.time());
    }

    /** "1. The rules are carried out in their order": before the louvres, the heaters, the power and the heat of the step. */
    static void rulesComeFirst() {
        LouvreCraft x = withNode(1000, 500);
        x.addLouvre(0, 0, 0, 1000, 100);
        x.addHeater(0, 300, 0, 1000, 0);
        x.setPower(300, 0, 0, 0);
        Check.fine(x, 5, "louvre 0 hold; heater 0 off; heater 0 on; load 0 = 9; load 0 = 200;");
        x.run(1);
        Check.due("held in this step", 0, x.opening(0));
        Check.due("on in this step, by the later rule", 1, x.heaterState(0));
        Check.due("heated in this step, by the later load", 505, x.temperature(0));
    }

    /** "2. Each louvre that is not held moves its opening towards its target, by at most its rate." */
    static void openingMovesByItsRate() {
        LouvreCraft x = withNode(1, 0);
        x.addLouvre(0, 0, 0, 1000, 10);
        int[][] temperatureAndOpening = {{9, 9}, {19, 19}, {30, 29}, {30, 30}, {30, 30}, {21, 21}, {11, 11}, {0, 1}, {-50, 0}, {1, 1},
            {11, 11}, {1000, 21}};
        for (int[] pair : temperatureAndOpening) {
            x.setTemperature(0, pair[0]);
            x.run(1);
            Check.due("opening at " + pair[0], pair[1], x.opening(0));
        }
        LouvreCraft y = withNode(1, 0);
        y.addLouvre(0, 0, 0, 1000, 1);
        y.addLouvre(0, 0, 0, 1000, 1000);
        y.setTemperature(0, 2);
        y.run(1);
        Check.due("the least rate", 1, y.opening(0));
        Check.due("the greatest rate", 2, y.opening(1));
        y.setTemperature(0, 1000);
        y.run(1);
        Check.due("the least rate", 2, y.opening(0));
        Check.due("the greatest rate", 1000, y.opening(1));
        y.setTemperature(0, 0);
        y.run(1);
        Check.due("the least rate", 1, y.opening(0));
        Check.due("the greatest rate", 0, y.opening(1));
    }

    static void heldLouvreStays() {
        LouvreCraft x = withNode(1, 500);
        x.addLouvre(0, 0, 0, 1000, 300);
        x.run(1);
        Check.fine(x, 1, "louvre 0 hold;");
        x.run(1);
        Check.due("held while it opens", 300, x.opening(0));
        x.setTemperature(0, 0);
        x.run(1);
        Check.due("held while it would close", 300, x.opening(0));
        Check.due("the target is told all the same", 0, x.target(0));
        Check.fine(x, 1, "louvre 0 free;");
        x.run(1);
        Check.due("free", 0, x.opening(0));
    }

    /** "In mode 0 its wish becomes yes if .. below the lower .., no if it is above the higher one, and otherwise stays." */
    static void wishBelowLowerAndAboveHigher() {
        int[][] temperatureAndStates = {{999, 1, 1}, {1000, 0, 1}, {1001, 0, 1}, {1999, 0, 1}, {2000, 0, 1}, {2001, 0, 0}};
        for (int[] three : temperatureAndStates) {
            for (int before = 0; before < 2; before++) {
                LouvreCraft x = withNode(1, before == 0 ? 200000 : -200000);
                x.addHeater(0, 0, 1000, 2000, 0);
                x.run(1);
                Check.due("wish before", before, x.heaterState(0));
                x.setTemperature(0, three[0]);
                x.run(1);
                Check.due("at " + three[0] + " after " + before, three[1 + before], x.heaterState(0));
            }
        }
    }

    /** "In mode 1 its wish becomes yes, in mode 2 no." Whatever the temperature is. */
    static void wishOfModes() {
        for (int temperature : new int[] {-200000, 1000, 1500, 2000, 200000}) {
            LouvreCraft x = withNode(1, temperature);
            x.addHeater(0, 0, 1000, 2000, 0);
            x.setMode(0, 1);
            x.run(1);
            Check.due("mode 1", 1, x.heaterState(0));
            x.setMode(0, 2);
            x.run(1);
            Check.due("mode 2", 0, x.heaterState(0));
        }
    }

    /** A heater that is always wished for, on a node that keeps its temperature. */
    private static LouvreCraft withHeaters(int... powers) {
        LouvreCraft x = withNode(100000, 0);
        for (int power : powers) {
            x.addHeater(0, power, 200000, 200000, 0);
        }
        return x;
    }

    private static void states(LouvreCraft x, String what, int... states) {
        for (int heater = 0; heater < states.length; heater++) {
            Check.due(what + ", heater " + heater, states[heater], x.heaterState(heater));
        }
    }

    /** "The available power is ..; 0 if that is negative." */
    static void availablePowerIsNotNegative() {
        LouvreCraft x = withHeaters(0, 1);
        x.setPower(0, 1000000, 0, 0);
        x.run(1);
        states(x, "-1000000", 1, 2);
        x.setPower(499, 500, 0, 0);
        x.run(1);
        states(x, "-1", 1, 2);
        x.setPower(500, 500, 0, 0);
        x.run(1);
        states(x, "0", 1, 2);
        x.setPower(501, 500, 0, 0);
        x.run(1);
        states(x, "1", 1, 1);
    }

    /** "A heater whose power is at most the available power is on .. otherwise it is shed." */
    static void availablePowerIsEnough() {
        LouvreCraft x = withHeaters(700, 300);
        x.setPower(699, 0, 0, 0);
        x.run(1);
        states(x, "699", 2, 1);
        x.setPower(700, 0, 0, 0);
        x.run(1);
        states(x, "700", 1, 2);
        x.setPower(999, 0, 0, 0);
        x.run(1);
        states(x, "999", 1, 2);
        x.setPower(1000, 0, 0, 0);
        x.run(1);
        states(x, "1000", 1, 1);
        Check.due("shed", 3, x.shedCount());
        LouvreCraft y = withHeaters(100000);
        y.setPower(99999, 0, 0, 0);
        y.run(1);
        states(y, "just not enough for the greatest power", 2);
        y.setPower(100000, 0, 0, 0);
        y.run(1);
        states(y, "just enough for the greatest power", 1);
    }

    /** "The available power is charge / D minus the base load", truncated before the base load is taken. */
    static void chargeOverStepLength() {
        LouvreCraft x = withHeaters(100);
        x.setPower(0, 50, 5000, 1499);
        x.run(1);
        states(x, "149 - 50", 2);
        x.setPower(0, 50, 5000, 1500);
        x.run(1);
        states(x, "150 - 50", 1);
        Check.due("charge", 0, x.charge());
        x.setStepLength(60);
        x.setPower(0, 0, 6000, 5999);
        x.run(1);
        states(x, "99", 2);
        Check.due("charge", 5999, x.charge());
        x.setPower(0, 0, 6000, 6000);
        x.run(1);
        states(x, "100", 1);
        Check.due("charge", 0, x.charge());
        x.setStepLength(1);
        x.setPower(0, 0, 100, 100);
        x.run(1);
        states(x, "100 in one second", 1);
    }

    /** "plus the power of the array if there is sun": for the heaters and for the charge. */
    static void arrayInTheSunAlone() {
        LouvreCraft x = withHeaters(100);
        x.setStepLength(1);
        x.setOrbit(4, 1, 3, 0, 0, 0);
        x.setPower(150, 0, 1000, 0);
        int[] states = {1, 2, 2, 1, 1, 1, 2};
        int[] charges = {50, 50, 50, 100, 150, 50, 50};
        for (int step = 0; step < states.length; step++) {
            x.run(1);
            Check.due("state in step " + step, states[step], x.heaterState(0));
            Check.due("charge after step " + step, charges[step], x.charge());
        }
    }

    /** "By descending priority, of equal priorities by ascending number." */
    static void priorityAndNumber() {
        LouvreCraft x = withNode(100000, 0);
        int[] priorities = {0, 9, 4, 4, 9, 0, 4, 8};
        int[] order = {1, 4, 7, 2, 3, 6, 0, 5};
        for (int priority : priorities) {
            x.addHeater(0, 10, 200000, 200000, priority);
        }
        for (int on = 0; on <= 8; on++) {
            x.setPower(10 * on, 0, 0, 0);
            x.run(1);
            for (int place = 0; place < 8; place++) {
                Check.due("heater " + order[place] + " of " + on, place < on ? 1 : 2, x.heaterState(order[place]));
            }
        }
    }

    /** A heater that is shed takes nothing, so that a later one with less power may be on. "All other heaters are off." */
    static void shedHeaterLeavesThePower() {
        LouvreCraft x = withHeaters(500, 400, 90, 20, 10);
        x.setPower(499, 0, 0, 0);
        x.setMode(3, 2);
        x.run(1);
        states(x, "499", 2, 1, 1, 0, 2);
        Check.due("used", 490, x.usedPower());
    }

    /** "Then the charge grows by D times (..), and is limited to the range from 0 to the capacity." */
    static void chargeIsLimited() {
        LouvreCraft x = withHeaters(100);
        x.setPower(200, 0, 1999, 0);
        x.run(1);
        Check.due("1000", 1000, x.charge());
        x.run(1);
        Check.due("2000 is too much", 1999, x.charge());
        x.setPower(200, 0, 2000, 1000);
        x.run(1);
        Check.due("just full", 2000, x.charge());
        x.setPower(0, 100, 2000, 2000);
        x.run(1);
        states(x, "200 - 100", 1);
        Check.due("just empty", 0, x.charge());
        x.setPower(0, 101, 2000, 1009);
        x.run(1);
        states(x, "100 - 101", 2);
        Check.due("1010 is too much", 0, x.charge());
        x.setPower(1000000, 0, 0, 0);
        x.run(1);
        Check.due("no capacity", 0, x.charge());
        x.setStepLength(60);
        x.setPower(1000000, 0, 1000000000, 940000001);
        x.setMode(0, 2);
        x.run(1);
        Check.due("the greatest charge", 1000000000, x.charge());
        x.setPower(0, 1000000, 1000000000, 59999999);
        x.run(1);
        Check.due("the least charge", 0, x.charge());
        x.setPower(0, 1000000, 1000000000, 60000001);
        x.run(1);
        Check.due("one is left", 1, x.charge());
    }

    /** "5. .. with the temperatures before the step", but with the openings and states of heaters of the step. */
    static void heatIsThatBeforeTheStep() {
        LouvreCraft x = withNode(100, 10000);
        x.addNode(100, 0, 0, 0, 0);
        x.addNode(100, 0, 0, 0, 0);
        x.link(0, 1, 100);
        x.link(1, 2, 100);
        x.run(1);
        Check.due("0 gives", 9900, x.temperature(0));
        Check.due("1 takes", 100, x.temperature(1));
        Check.due("2 has nothing yet", 0, x.temperature(2));
        LouvreCraft y = withNode(1000, 0);
        y.addLouvre(0, 1000, -500, 500, 1000);
        y.addHeater(0, 4000, 1000, 1000, 0);
        y.setPower(4000, 0, 0, 0);
        y.run(1);
        Check.due("half open and heated", (4000 - emission(500, 273)) * 10 / 1000, y.temperature(0));
    }

    /** "Absorbed heat: .. if there is sun, plus emitting area * infrared flux / 10." */
    static void absorbedHeatInTheSunAndShade() {
        LouvreCraft x = new LouvreCraft();
        x.addNode(100000, 0, 9, 11, 0);
        x.setOrbit(20, 10, 20, 9, 9, 11);
        Check.due("9.9 and 0.891 and 9.9", 9 + 0 + 9, x.absorbedHeat(0));
        x.run(1);
        Check.due("9.9 in the shade", 9, x.absorbedHeat(0));
        x.run(1);
        x.setOrbit(20, 10, 20, 1000, 100, 0);
        Check.due("the whole albedo", 1100 + 1100, x.absorbedHeat(0));
        x.setOrbit(20, 10, 20, 1000, 0, 0);
        Check.due("no albedo", 1100, x.absorbedHeat(0));
        x.setOrbit(20, 10, 20, 0, 100, 10000);
        Check.due("infrared alone", 9000, x.absorbedHeat(0));
    }

    /** "Conducted heat: the sum, over all links of the node": each link truncated for itself, none gives 0. */
    static void conductedHeatOfNoLink() {
        LouvreCraft x = withNode(1000, 0);
        x.addNode(1000, 999, 0, 0, 0);
        x.addNode(1000, 999, 0, 0, 0);
        x.addNode(1000, -999, 0, 0, 0);
        Check.due("no link", 0, x.conductedHeat(0));
        x.link(0, 1, 1);
        x.link(2, 0, 1);
        x.link(3, 0, 1);
        Check.due("0.999 is 0", 0, x.conductedHeat(0));
        Check.due("-0.999 is 0", 0, x.conductedHeat(1));
        x.setTemperature(1, 1000);
        Check.due("1", 1, x.conductedHeat(0));
        x.setTemperature(3, -1000);
        Check.due("1 and -1", 0, x.conductedHeat(0));
    }

    /** "k = (temperature + 273150) / 1000 (in kelvin)" */
    static void emittedHeatOfWholeKelvins() {
        LouvreCraft x = new LouvreCraft();
        x.addNode(1, 0, 10000, 0, 0);
        int[][] temperatureAndKelvin = {{-200000, 73}, {-199151, 73}, {-199150, 74}, {-151, 272}, {-150, 273}, {0, 273}, {849, 273},
            {850, 274}, {199849, 472}, {199850, 473}, {200000, 473}};
        for (int[] pair : temperatureAndKelvin) {
            x.setTemperature(0, pair[0]);
            Check.due("emittedHeat at " + pair[0], emission(10000, pair[1]), x.emittedHeat(0));
        }
        // 1000 * 100^4 * 567 is 567 * 100000000000, and 4349 * 389^4 * 567 is 163797 less than a multiple of it.
        x.addNode(1, 100000 - 273150, 1000, 0, 0);
        Check.due("nothing is truncated", 567, x.emittedHeat(1));
        x.addNode(1, 389000 - 273150, 4349, 0, 0);
        Check.due("nearly one is truncated", 564638, x.emittedHeat(2));
    }

    /** "The sum of area * opening / 1000 over the louvres of the node": each louvre truncated for itself. */
    static void openingsAreTruncated() {
        LouvreCraft x = withNode(100000, 500);
        x.addNode(100000, 0, 0, 0, 0);
        x.addLouvre(0, 3, 0, 1000, 333);
        x.addLouvre(0, 1, 0, 1000, 999);
        x.addLouvre(1, 10000, -2000, -1000, 1000);
        x.run(1);
        x.setTemperature(0, 500);
        Check.due("0.999 and 0.5", 0, x.emittedHeat(0));
        x.setTemperature(0, 334);
        x.run(1);
        Check.due("1.002 and 0.334", emission(1, 273), x.emittedHeat(0));
        x.setTemperature(0, 2000);
        x.run(3);
        x.setTemperature(0, 0);
        Check.due("both open", emission(4, 273), x.emittedHeat(0));
    }

    /** "A node has a violation in a step if its temperature after the step is outside its survival limits." */
    static void limitsAreNoViolation() {
        int[][] limitsAndViolations = {{-5, 5, 0}, {0, 5, 0}, {1, 5, 1}, {-5, 0, 0}, {-5, -1, 1}, {0, 0, 0}};
        for (int[] three : limitsAndViolations) {
            LouvreCraft x = withNode(1000, 0);
            x.setLimits(0, three[0], three[1]);
            Check.due("run", three[2], x.run(1));
            Check.due("violations", three[2], x.violations(0));
            Check.due("firstViolation", three[2] == 1 ? 10 : -1, x.firstViolation(0));
        }
        LouvreCraft x = withNode(1000, 0);
        x.setLimits(0, 0, 0);
        x.setLoad(0, 100);
        Check.due("the temperature after the step counts", 1, x.run(1));
        x.setLimits(0, 2, 2);
        Check.due("not the one before it", 0, x.run(1));
    }

    /** "A node becomes a violator with its first violation": later ones change neither its place nor its time. */
    static void violatorOnce() {
        LouvreCraft x = withNode(1000, 0);
        x.addNode(1000, 0, 0, 0, 0);
        x.setLimits(1, 1, 1);
        x.run(1);
        x.setLimits(1, 0, 0);
        x.setLimits(0, 1, 1);
        x.run(1);
        x.setLimits(1, 1, 1);
        x.run(1);
        Check.due("violatorCount", 2, x.violatorCount());
        Check.due("violator(0)", 1, x.violator(0));
        Check.due("violator(1)", 0, x.violator(1));
        Check.due("firstViolation(0)", 20, x.firstViolation(0));
        Check.due("firstViolation(1)", 10, x.firstViolation(1));
        Check.due("violations(0)", 2, x.violations(0));
        Check.due("violations(1)", 2, x.violations(1));
    }

    /** "Nodes of the same step by number." */
    static void violatorsOfAStepByNumber() {
        LouvreCraft x = new LouvreCraft();
        for (int node = 0; node < 12; node++) {
            x.addNode(1000, 0, 0, 0, 0);
        }
        for (int node = 11; node >= 0; node--) {
            if (node % 2 == 1) {
                x.setLimits(node, 1, 1);
            }
        }
        x.run(1);
        for (int node = 0; node < 12; node += 2) {
            x.setLimits(node, 1, 1);
        }
        x.run(1);
        int[] order = {1, 3, 5, 7, 9, 11, 0, 2, 4, 6, 8, 10};
        for (int index = 0; index < 12; index++) {
            Check.due("violator", order[index], x.violator(index));
        }
    }

    /** "The heaters that were shed (one for each heater and step)." */
    static void shedForEachHeaterAndStep() {
        LouvreCraft x = withHeaters(1, 1, 1, 1, 1, 1, 1, 1);
        x.run(3);
        Check.due("8 in each of 3 steps", 24, x.shedCount());
        x.setPower(7, 0, 0, 0);
        x.run(1);
        Check.due("1 more", 25, x.shedCount());
        x.setPower(8, 0, 0, 0);
        x.run(1000);
        Check.due("none more", 25, x.shedCount());
    }

    /** "Each step adds D times the sum over all nodes (or heaters that are on)." */
    static void energiesOfAllNodes() {
        LouvreCraft x = new LouvreCraft();
        for (int node = 0; node < 12; node++) {
            x.addNode(100000, 0, 1, 1, 0);
        }
        for (int heater = 0; heater < 8; heater++) {
            x.addHeater(heater, 3, 200000, 200000, 0);
        }
        x.setPower(23, 0, 0, 0);
        x.setStepLength(60);
        x.run(1);
        Check.due("emitted", 60 * 12 * emission(1, 273), x.energy(0));
        Check.due("absorbed", 60 * 12 * 136, x.energy(1));
        Check.due("heater energy of 7", 60 * 7 * 3, x.energy(2));
        x.setStepLength(1);
        x.setPower(24, 0, 0, 0);
        x.run(1);
        Check.due("heater energy of 8 more", 60 * 7 * 3 + 8 * 3, x.energy(2));
        LouvreCraft empty = new LouvreCraft();
        empty.run(1000);
        Check.due("of no nodes", 0, empty.energy(0) + empty.energy(1) + empty.energy(2));
    }
}
