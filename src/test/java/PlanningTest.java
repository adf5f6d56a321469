/** Promises 45 to 49: planning. */
public final class PlanningTest {
    private static final int GONE = LouvreCraft.NO_SUCH_PART;
    private static final int RANGE = LouvreCraft.OUT_OF_RANGE;

    public static void main(String[] args) {
        stepsToViolation();
        forecastsFollowTheRules();
        forecastsAreRuns();
        fullCraft();
        extremeAhead();
        leastHeaterPower();
        leastHeaterPowerAtTheEdges();
        leastLouvreArea();
        settlingOrbit();
        settlingOrbitAtTheEdges();
        nothingChanges();
        Check.finish();
    }

    /** Promise 45. */
    static void stepsToViolation() {
        LouvreCraft x = new LouvreCraft();
        Check.due("any of no node", -1, x.stepsToViolation(-1, 1));
        Check.due("any, 0 steps", RANGE, x.stepsToViolation(-1, 0));
        Check.due("no node", GONE, x.stepsToViolation(0, 1));
        x.addNode(1000, 0, 0, 0, 100);
        x.addNode(1000, 0, 0, 0, 200);
        Check.due("node -2", GONE, x.stepsToViolation(-2, 1));
        Check.due("node 2", GONE, x.stepsToViolation(2, 0));
        Check.due("0 steps", RANGE, x.stepsToViolation(0, 0));
        Check.due("2001 steps", RANGE, x.stepsToViolation(0, 2001));
        Check.due("2000 steps", -1, x.stepsToViolation(0, 2000));
        x.setLimits(0, -1, 1999);
        Check.due("in 2000 steps", 2000, x.stepsToViolation(0, 2000));
        Check.due("not in 1999 steps", -1, x.stepsToViolation(0, 1999));
        x.setLimits(1, -1, 20);
        Check.due("of node 1", 11, x.stepsToViolation(1, 50));
        Check.due("of any node", 11, x.stepsToViolation(-1, 50));
        Check.due("not of node 0", -1, x.stepsToViolation(0, 50));
        x.setLimits(0, -1, 5);
        Check.due("of any node", 6, x.stepsToViolation(-1, 50));
        x.setLimits(0, 2, 5);
        Check.due("in the next step", 1, x.stepsToViolation(0, 50));
        x.setLimits(0, 1, 5);
        Check.due("only the steps count", 6, x.stepsToViolation(0, 50));
        x.run(9);
        Check.due("violated before, and in the next step", 1, x.stepsToViolation(0, 50));
        x.setTemperature(0, 0);
        Check.due("violated before, and ahead again", 6, x.stepsToViolation(0, 50));
    }

    static void forecastsFollowTheRules() {
        LouvreCraft x = new LouvreCraft();
        x.addNode(1000, 0, 0, 0, 100);
        x.setLimits(0, -100, 20);
        Check.fine(x, 2, "when temp 0 > 14: load 0 = 0; when phase > 999: load 0 = 100;");
        Check.due("the load stops, and begins again at 1000", 106, x.stepsToViolation(0, 200));
        Check.due("highest in 100 steps", 15, x.extremeAhead(0, 100, true));
        Check.due("load", 100, x.load(0));
    }

    private static LouvreCraft built() {
        LouvreCraft x = new LouvreCraft();
        x.addNode(100, 20000, 100, 50, 10);
        x.addNode(200, 10000, 30, 40, 5000);
        x.addNode(300, -5000, 20, 10, 0);
        x.link(0, 1, 300);
        x.link(0, 2, 20);
        x.setLimits(0, 16000, 21000);
        x.setLimits(1, 5000, 13000);
        x.setLimits(2, -6200, 2000);
        x.addLouvre(1, 500, 0, 20000, 20);
        x.addLouvre(0, 500, -10000, 20000, 30);
        x.addHeater(0, 300, 5000, 21000, 1);
        x.addHeater(1, 400, 10500, 11000, 2);
        x.addHeater(2, 900, 1000, 3000, 2);
        x.addHeater(2, 100, 1000, 3000, 7);
        x.setMode(2, 2);
        x.setMode(3, 1);
        x.setOrbit(600, 100, 300, 1300, 30, 20);
        x.setPower(800, 50, 100000, 14000);
        x.setStepLength(5);
        Check.fine(x, 3, "when temp 0 > 20500: louvre 0 hold; when used > 600: load 2 = 70; load 1 = 4000 + phase * 3;");
        x.run(10);
        return x;
    }

    /** What is forecast comes true when the steps are carried out. */
    static void forecastsAreRuns() {
        int[] first = new int[3];
        int[] hottest = {-200000, -200000, -200000};
        int[] coldest = {200000, 200000, 200000};
        LouvreCraft x = built();
        LouvreCraft y = built();
        for (int step = 1; step <= 150; step++) {
            y.resetRecords();
            y.run(1);
            for (int node = 0; node < 3; node++) {
                first[node] = first[node] == 0 && y.violations(node) > 0 ? step : first[node];
                hottest[node] = Math.max(hottest[node], y.temperature(node));
                coldest[node] = Math.min(coldest[node], y.temperature(node));
            }
        }
        int any = 1000;
        for (int node = 0; node < 3; node++) {
            Check.due("hottest of " + node, hottest[node], x.extremeAhead(node, 150, true));
            Check.due("coldest of " + node, coldest[node], x.extremeAhead(node, 150, false));
            Check.due("first of " + node, first[node] == 0 ? -1 : first[node], x.stepsToViolation(node, 150));
            any = first[node] == 0 ? any : Math.min(any, first[node]);
        }
        Check.due("there is a violation ahead", true, any < 1000);
        Check.due("first of any", any, x.stepsToViolation(-1, 150));
    }

    /** With as many parts as there can be every call still answers. */
    static void fullCraft() {
        LouvreCraft x = new LouvreCraft();
        for (int node = 0; node < 12; node++) {
            x.addNode(1000, 1000 * node, 10, 10, 100);
        }
        for (int a = 0; a < 12; a++) {
            x.link(a, (a + 1) % 12, 100);
            x.link(a, (a + 3) % 12, 50);
        }
        for (int part = 0; part < 8; part++) {
            x.addHeater(part, 100, 100000, 100000, part % 3);
            x.addLouvre(part, 10, 0, 10000, 100);
        }
        Check.due("links", 24, x.linkCount());
        Check.due("louvres", 6, x.louvreCount());
        Check.due("heaters", 8, x.heaterCount());
        Check.fine(x, 12, "load 0=1;load 1=2;load 2=3;load 3=4;load 4=5;load 5=6;load 6=7;load 7=8;load 8=9;load 9=10;load 10=11;load 11=12;");
        Check.due("save", true, x.save(0));
        Check.due("no violation", -1, x.stepsToViolation(-1, 10));
        Check.due("least power", 0, x.leastHeaterPower(7, 10));
        Check.due("least area", 0, x.leastLouvreArea(5, 10));
        Check.due("settled", 1, x.settlingOrbit(100000, 1));
        int ahead = x.extremeAhead(11, 10, false);
        x.run(10);
        Check.due("as forecast", ahead, x.temperature(11));
        Check.due("load", 12, x.load(11));
        Check.due("no violators", 0, x.resetRecords());
        Check.due("restore", true, x.restore(0));
        Check.due("temperature", 11000, x.temperature(11));
        Check.due("link", 50, x.conductance(11, 2));
        x.run(10);
        Check.due("as forecast again", ahead, x.temperature(11));
    }

    /** Promise 46. */
    static void extremeAhead() {
        LouvreCraft x = new LouvreCraft();
        Check.due("no node", GONE, x.extremeAhead(0, 1, true));
        x.addNode(1000, 50, 0, 0, 100);
        Check.due("node -1", GONE, x.extremeAhead(-1, 1, true));
        Check.due("node 1", GONE, x.extremeAhead(1, 0, true));
        Check.due("0 steps", RANGE, x.extremeAhead(0, 0, false));
        Check.due("2001 steps", RANGE, x.extremeAhead(0, 2001, false));
        Check.due("highest", 57, x.extremeAhead(0, 7, true));
        Check.due("lowest, without the present one", 51, x.extremeAhead(0, 7, false));
        Check.due("2000 steps", 2050, x.extremeAhead(0, 2000, true));
        Check.fine(x, 1, "when temp 0 > 60: load 0 = 0;");
        Check.due("with the rules", 61, x.extremeAhead(0, 50, true));
        Check.fine(x, 0, "");
        x.addNode(1000, 0, 0, 0, 0);
        x.link(0, 1, 100);
        Check.due("the load against the link", 50, x.extremeAhead(0, 1, true));
        x.setTemperature(0, 200000);
        Check.due("the hottest", 199801, x.extremeAhead(0, 1, false));
        x.setTemperature(0, -200000);
        x.setTemperature(1, -200000);
        x.setLoad(0, 0);
        Check.due("the coldest", -200000, x.extremeAhead(0, 9, true));
        Check.due("the coldest", -200000, x.extremeAhead(0, 9, false));
    }

    /** Promise 47. */
    static void leastHeaterPower() {
        LouvreCraft x = new LouvreCraft();
        Check.due("no heater", GONE, x.leastHeaterPower(0, 1));
        x.addNode(1000, 0, 0, 0, 0);
        x.addNode(100000, -100000, 0, 0, 0);
        x.link(0, 1, 100);
        x.addHeater(0, 77, 200000, 200000, 0);
        x.setPower(1000000, 0, 0, 0);
        Check.due("heater -1", GONE, x.leastHeaterPower(-1, 1));
        Check.due("heater 1", GONE, x.leastHeaterPower(1, 0));
        Check.due("0 steps", RANGE, x.leastHeaterPower(0, 0));
        Check.due("201 steps", RANGE, x.leastHeaterPower(0, 201));
        Check.due("no limits, 200 steps", 0, x.leastHeaterPower(0, 200));
        x.setLimits(0, -1, 1000);
        Check.due("against a loss of 10000", 10000, x.leastHeaterPower(0, 5));
        x.setLimits(0, 10, 1000);
        Check.due("and 10 more in the first step", 11000, x.leastHeaterPower(0, 5));
        x.setLimits(0, 11, 1000);
        Check.due("and 11 more in the first step", 12000, x.leastHeaterPower(0, 5));
        x.setLimits(0, 200, 1000);
        Check.due("at most 30000", 30000, x.leastHeaterPower(0, 1));
        x.setLimits(0, 201, 1000);
        Check.due("not more than 30000", -1, x.leastHeaterPower(0, 1));
        x.setLimits(0, -1, 1000);
        x.setLimits(1, -200000, -100001);
        Check.due("any other node", -1, x.leastHeaterPower(0, 1));
        Check.due("the own power stays", 0, x.usedPower());
        x.run(1);
        Check.due("the own power stays", 77, x.usedPower());
    }

    static void leastHeaterPowerAtTheEdges() {
        LouvreCraft x = new LouvreCraft();
        x.addNode(1000, 0, 0, 0, 0);
        x.addHeater(0, 0, 200000, 200000, 0);
        x.setLimits(0, 20, 1000);
        x.setPower(2500, 0, 0, 0);
        Check.due("2000", 2000, x.leastHeaterPower(0, 1));
        x.setPower(1999, 0, 0, 0);
        Check.due("is shed", -1, x.leastHeaterPower(0, 1));
        x.setPower(10000, 0, 0, 0);
        x.setLimits(0, -1000, 100);
        Check.due("the least one is tried first", 0, x.leastHeaterPower(0, 100));
        // With a load of 1000 the 10th step ends at 100, the 11th above it, whatever the power.
        x.setLoad(0, 1000);
        Check.due("10 steps", 0, x.leastHeaterPower(0, 10));
        Check.due("11 steps", -1, x.leastHeaterPower(0, 11));
        x.setLoad(0, 0);
        // Power in use before the first step is that of the power which is tried.
        x.addHeater(0, 0, 200000, 200000, 0);
        x.run(1);
        x.setLimits(0, 10, 1000);
        Check.fine(x, 1, "when used > 2000: load 0 = 9000;");
        Check.due("used", 1000, x.leastHeaterPower(0, 1));
        x.setLimits(0, 100, 1000);
        Check.due("used", 3000, x.leastHeaterPower(0, 1));
    }

    /** Promise 48. */
    static void leastLouvreArea() {
        LouvreCraft x = new LouvreCraft();
        Check.due("no louvre", GONE, x.leastLouvreArea(0, 1));
        x.addNode(1000, 0, 0, 0, 0);
        x.addLouvre(0, 55, -100000, 100000, 500);
        Check.due("louvre -1", GONE, x.leastLouvreArea(-1, 1));
        Check.due("louvre 1", GONE, x.leastLouvreArea(1, 0));
        Check.due("0 steps", RANGE, x.leastLouvreArea(0, 0));
        Check.due("201 steps", RANGE, x.leastLouvreArea(0, 201));
        Check.due("no limits, 200 steps", 0, x.leastLouvreArea(0, 200));
        // At 273 kelvin an area of 100, half open, emits 1574 milliwatts, so 15 in a step.
        x.setLimits(0, -10000, -10);
        Check.due("100", 100, x.leastLouvreArea(0, 1));
        x.setLimits(0, -10000, -16);
        Check.due("200", 200, x.leastLouvreArea(0, 1));
        x.setLimits(0, -10000, -472);
        Check.due("3000", 3000, x.leastLouvreArea(0, 1));
        x.setLimits(0, -10000, -473);
        Check.due("not more than 3000", -1, x.leastLouvreArea(0, 1));
        x.run(1);
        Check.due("the own area stays", 27L * 273 * 273 * 273 * 273 * 567 / 100000000000L, x.emittedHeat(0));
        x.setLimits(0, -200000, 200000);
        x.addNode(1000, 0, 0, 0, 0);
        x.setLimits(1, 1, 5);
        Check.due("any other node", -1, x.leastLouvreArea(0, 1));
        // An area of 100 emits some 30 in each step from the second on, against a load of 20.
        LouvreCraft y = new LouvreCraft();
        y.addNode(1000, 0, 0, 0, 2000);
        y.setLimits(0, -10000, 60);
        y.addLouvre(0, 0, -100000, 100000, 500);
        Check.due("60 after 3 steps", 0, y.leastLouvreArea(0, 3));
        Check.due("80 after 4 steps", 100, y.leastLouvreArea(0, 4));
        Check.due("the opening stays", 0, y.opening(0));
    }

    /** Promise 49: 0.1 of the difference is left after an orbit of one step. */
    static void settlingOrbit() {
        LouvreCraft x = new LouvreCraft();
        x.addNode(100, 100000, 0, 0, 0);
        x.addNode(100000, 0, 0, 0, 0);
        x.link(0, 1, 9000);
        x.setOrbit(10, 0, 0, 0, 0, 0);
        Check.due("differs by 90000", 1, x.settlingOrbit(90000, 20));
        Check.due("differs by 9009", 2, x.settlingOrbit(89999, 20));
        Check.due("no second orbit", -1, x.settlingOrbit(8000, 2));
        Check.due("the third orbit", 3, x.settlingOrbit(8000, 3));
        x.setOrbit(20, 0, 0, 0, 0, 0);
        Check.due("two steps", -1, x.settlingOrbit(90000, 1));
        x.setOrbit(11, 0, 0, 0, 0, 0);
        Check.due("rounded up to two steps", -1, x.settlingOrbit(90000, 1));
        x.setStepLength(11);
        Check.due("one step again", 1, x.settlingOrbit(100000, 1));
        // From phase 90 on node 1 is heated, so that it gains 10 in each step of the second orbit.
        LouvreCraft y = new LouvreCraft();
        y.addNode(1000, 0, 0, 0, 0);
        y.addNode(1000, 0, 0, 0, 0);
        y.setOrbit(100, 0, 0, 0, 0, 0);
        Check.fine(y, 1, "when phase = 90: load 1 = 1000;");
        Check.due("10 in the first orbit", 1, y.settlingOrbit(10, 1));
        Check.due("not less", -1, y.settlingOrbit(9, 5));
        Check.fine(y, 2, "load 1 = 0; when phase = 90 and temp 1 = 0: load 1 = 1000;");
        Check.due("no more in the second orbit", 2, y.settlingOrbit(9, 5));
    }

    static void settlingOrbitAtTheEdges() {
        LouvreCraft x = new LouvreCraft();
        Check.due("tolerance -1", RANGE, x.settlingOrbit(-1, 1));
        Check.due("tolerance 100001", RANGE, x.settlingOrbit(100001, 1));
        Check.due("most 0", RANGE, x.settlingOrbit(0, 0));
        Check.due("most 21", RANGE, x.settlingOrbit(0, 21));
        Check.due("most * 600 is 3600", 1, x.settlingOrbit(0, 6));
        Check.due("most * 600 is 4200", RANGE, x.settlingOrbit(0, 7));
        x.setOrbit(2000, 0, 0, 0, 0, 0);
        Check.due("most * 200 is 4000", 1, x.settlingOrbit(0, 20));
        x.setOrbit(2001, 0, 0, 0, 0, 0);
        Check.due("most * 201 is 4020", RANGE, x.settlingOrbit(0, 20));
        x.setOrbit(10, 0, 0, 0, 0, 0);
        Check.due("20 orbits of a step", 1, x.settlingOrbit(0, 20));
        Check.due("21 orbits of a step", RANGE, x.settlingOrbit(0, 21));
        x.setStepLength(1);
        x.setOrbit(4001, 0, 0, 0, 0, 0);
        Check.due("4001 steps of one orbit", RANGE, x.settlingOrbit(0, 1));
        x.setOrbit(100000, 0, 0, 0, 0, 0);
        x.setStepLength(25);
        Check.due("4000 steps of one orbit", 1, x.settlingOrbit(100000, 1));
        x.setStepLength(24);
        Check.due("4167 steps of one orbit", RANGE, x.settlingOrbit(100000, 1));
        x.setStepLength(1);
        Check.due("far too many steps", RANGE, x.settlingOrbit(0, 20));
        // The first orbit begins with the next step, whatever the phase is.
        x.addNode(1000, 0, 0, 0, 0);
        x.setStepLength(35);
        x.setOrbit(70, 0, 0, 0, 0, 0);
        x.run(1);
        x.setStepLength(10);
        x.setOrbit(100, 0, 0, 0, 0, 0);
        Check.fine(x, 2, "load 0 = 0; when phase = 35: load 0 = 1000;");
        Check.due("the phase of the first step", 35, x.phase());
        Check.due("10 in each orbit", 1, x.settlingOrbit(10, 1));
        Check.due("10 in each orbit", -1, x.settlingOrbit(9, 3));
    }

    static void nothingChanges() {
        LouvreCraft x = new LouvreCraft();
        x.addNode(1000, 300, 10, 10, 100);
        x.addNode(1000, 0, 10, 10, 0);
        x.link(0, 1, 100);
        x.addHeater(0, 50, 100000, 100000, 0);
        x.addHeater(0, 900, 100000, 100000, 0);
        x.addLouvre(0, 50, -100000, 100000, 100);
        x.setPower(200, 10, 10000, 500);
        x.setLimits(0, 0, 1);
        Check.fine(x, 3, "heater 0 on; louvre 0 hold; load 0 = 77;");
        x.stepsToViolation(0, 20);
        x.extremeAhead(1, 20, true);
        x.leastHeaterPower(0, 20);
        x.leastLouvreArea(0, 20);
        x.settlingOrbit(0, 6);
        Check.due("time", 0, x.time());
        Check.due("temperature(0)", 300, x.temperature(0));
        Check.due("temperature(1)", 0, x.temperature(1));
        Check.due("load", 100, x.load(0));
        Check.due("mode", 0, x.heaterMode(0));
        Check.due("state", 0, x.heaterState(0));
        Check.due("held", 0, x.isHeld(0));
        Check.due("opening", 0, x.opening(0));
        Check.due("charge", 500, x.charge());
        Check.due("shed", 0, x.shedCount());
        Check.due("violators", 0, x.violatorCount());
        Check.due("violations", 0, x.violations(0));
        Check.due("lowest", 300, x.lowest(0));
        Check.due("highest", 300, x.highest(0));
        Check.due("emitted", 0, x.energy(0));
        Check.due("absorbed", 0, x.energy(1));
        Check.due("heater energy", 0, x.energy(2));
        Check.due("rules", 3, x.ruleCount());
    }
}
