/** Promises 36 to 44: records. */
public final class RecordsTest {
    private static final int GONE = LouvreCraft.NO_SUCH_PART;
    private static final int RANGE = LouvreCraft.OUT_OF_RANGE;

    public static void main(String[] args) {
        resetRecords();
        extremes();
        violations();
        violators();
        shedCount();
        energy();
        Check.finish();
    }

    /** Promise 36. */
    static void resetRecords() {
        LouvreCraft x = new LouvreCraft();
        Check.due("nothing", 0, x.resetRecords());
        x.addNode(1000, 0, 100, 100, 0);
        x.addNode(1000, 0, 0, 0, 500);
        x.addHeater(0, 100, 100000, 100000, 0);
        x.addHeater(0, 200, 100000, 100000, 0);
        x.setPower(100, 0, 0, 0);
        x.setLimits(0, 500, 600);
        x.setLimits(1, 500, 600);
        x.run(3);
        x.setTemperature(1, -70);
        Check.due("two violators", 2, x.resetRecords());
        Check.due("none", 0, x.violatorCount());
        Check.due("violator(0)", RANGE, x.violator(0));
        Check.due("shed", 0, x.shedCount());
        for (int which = 0; which < 3; which++) {
            Check.due("energy", 0, x.energy(which));
        }
        for (int node = 0; node < 2; node++) {
            Check.due("violations", 0, x.violations(node));
            Check.due("firstViolation", -1, x.firstViolation(node));
            Check.due("lowest", x.temperature(node), x.lowest(node));
            Check.due("highest", x.temperature(node), x.highest(node));
        }
        Check.due("the time goes on", 30, x.time());
        Check.due("the heater stays on", 1, x.heaterState(0));
        x.run(1);
        Check.due("violator again", 1, x.violator(1));
        Check.due("first again", 40, x.firstViolation(1));
        Check.due("lowest", -70, x.lowest(1));
        Check.due("highest", -65, x.highest(1));
        Check.due("two again", 2, x.resetRecords());
        Check.due("none again", 0, x.resetRecords());
    }

    /** Promises 37 and 38. */
    static void extremes() {
        LouvreCraft x = new LouvreCraft();
        Check.due("no node", GONE, x.lowest(0));
        Check.due("no node", GONE, x.highest(0));
        x.addNode(1000, 5, 0, 0, 100);
        Check.due("node -1", GONE, x.lowest(-1));
        Check.due("node 1", GONE, x.highest(1));
        Check.due("at first", 5, x.lowest(0));
        Check.due("at first", 5, x.highest(0));
        x.run(4);
        Check.due("the first one", 5, x.lowest(0));
        Check.due("the last one", 9, x.highest(0));
        x.setTemperature(0, -100);
        x.run(2);
        Check.due("after the first step", -99, x.lowest(0));
        Check.due("stays", 9, x.highest(0));
        x.addNode(1000, -300, 0, 0, 0);
        Check.due("own records", -300, x.highest(1));
        Check.due("own records", -300, x.lowest(1));
        Check.due("others stay", 9, x.highest(0));
    }

    /** Promises 39 and 40. */
    static void violations() {
        LouvreCraft x = new LouvreCraft();
        Check.due("no node", GONE, x.violations(0));
        Check.due("no node", GONE, x.firstViolation(0));
        x.addNode(1000, 0, 0, 0, 100);
        Check.due("node -1", GONE, x.violations(-1));
        Check.due("node 1", GONE, x.violations(1));
        Check.due("node -1", GONE, x.firstViolation(-1));
        Check.due("node 1", GONE, x.firstViolation(1));
        x.setLimits(0, 2, 4);
        Check.due("outside without a step", 0, x.violations(0));
        Check.due("first", -1, x.firstViolation(0));
        x.run(1);
        Check.due("at 1", 1, x.violations(0));
        Check.due("first", 10, x.firstViolation(0));
        x.run(3);
        Check.due("at 2, 3 and 4", 1, x.violations(0));
        x.run(2);
        Check.due("at 5 and 6", 3, x.violations(0));
        Check.due("first stays", 10, x.firstViolation(0));
    }

    /** Promises 41 and 42. */
    static void violators() {
        LouvreCraft x = new LouvreCraft();
        Check.due("violator(0)", RANGE, x.violator(0));
        for (int node = 0; node < 12; node++) {
            x.addNode(1000, 0, 0, 0, 100);
            x.setLimits(node, -1, node == 7 ? 0 : node == 3 || node == 5 ? 2 : node == 9 ? 3 : 4);
        }
        x.run(1);
        Check.due("one", 1, x.violatorCount());
        Check.due("first", 7, x.violator(0));
        Check.due("violator(1)", RANGE, x.violator(1));
        Check.due("violator(-1)", RANGE, x.violator(-1));
        x.run(2);
        Check.due("three", 3, x.violatorCount());
        x.run(1);
        Check.due("four", 4, x.violatorCount());
        x.run(1);
        Check.due("all", 12, x.violatorCount());
        int[] order = {7, 3, 5, 9, 0, 1, 2, 4, 6, 8, 10, 11};
        for (int i = 0; i < 12; i++) {
            Check.due("violator(" + i + ")", order[i], x.violator(i));
        }
        Check.due("violator(12)", RANGE, x.violator(12));
        x.run(10);
        Check.due("no node twice", 12, x.violatorCount());
        Check.due("all are removed", 12, x.resetRecords());
        Check.due("the last one too", -1, x.firstViolation(11));
        x.run(1);
        Check.due("nodes of the same step by number", 0, x.violator(0));
        Check.due("nodes of the same step by number", 11, x.violator(11));
    }

    /** Promise 43. */
    static void shedCount() {
        LouvreCraft x = new LouvreCraft();
        x.addNode(1000, 0, 0, 0, 0);
        for (int heater = 0; heater < 3; heater++) {
            x.addHeater(0, 100, 1000, 1000, 0);
        }
        Check.due("none", 0, x.shedCount());
        x.run(1);
        Check.due("three", 3, x.shedCount());
        x.setPower(100, 0, 0, 0);
        x.run(10);
        Check.due("two in each of ten steps", 23, x.shedCount());
        x.setMode(2, 2);
        x.run(1);
        Check.due("one", 24, x.shedCount());
    }

    /** Promise 44. */
    static void energy() {
        LouvreCraft x = new LouvreCraft();
        Check.due("-1", RANGE, x.energy(-1));
        Check.due("3", RANGE, x.energy(3));
        Check.due("the greatest int", RANGE, x.energy(Integer.MAX_VALUE));
        x.addNode(1000, 0, 100, 50, 0);
        x.addNode(1000, 5000, 10, 20, 0);
        x.addHeater(0, 300, 10000, 10000, 0);
        x.addHeater(1, 500, 10000, 10000, 0);
        x.addHeater(1, 900, 10000, 10000, 0);
        x.setPower(1000, 0, 0, 0);
        x.setStepLength(7);
        long emitted = 7 * (x.emittedHeat(0) + x.emittedHeat(1));
        long absorbed = 7 * (x.absorbedHeat(0) + x.absorbedHeat(1));
        x.run(1);
        Check.due("emitted", emitted, x.energy(0));
        Check.due("absorbed", absorbed, x.energy(1));
        Check.due("heaters, one of them shed", 7 * 800, x.energy(2));
        x.setStepLength(11);
        emitted += 11 * (x.emittedHeat(0) + x.emittedHeat(1));
        x.run(1);
        Check.due("emitted in both steps", emitted, x.energy(0));
        Check.due("absorbed in both steps", absorbed / 7 * 18, x.energy(1));
        Check.due("heaters in both steps", 18 * 800, x.energy(2));
    }
}
