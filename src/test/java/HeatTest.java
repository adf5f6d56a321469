/** Promises 29 to 35, and the heat in a step. */
public final class HeatTest {
    private static final int GONE = LouvreCraft.NO_SUCH_PART;

    public static void main(String[] args) {
        temperatureAndLoad();
        absorbedHeat();
        emittedHeat();
        conductedHeat();
        netHeat();
        margin();
        warming();
        Check.finish();
    }

    private static long emission(long area, long kelvin) {
        return area * kelvin * kelvin * kelvin * kelvin * 567 / 100000000000L;
    }

    /** Promises 29 and 30. */
    static void temperatureAndLoad() {
        LouvreCraft x = new LouvreCraft();
        Check.due("no node", GONE, x.temperature(0));
        Check.due("no node", GONE, x.load(0));
        x.addNode(1, 12, 0, 0, 34);
        x.addNode(1, -56, 0, 0, 78);
        Check.due("temperature(0)", 12, x.temperature(0));
        Check.due("temperature(1)", -56, x.temperature(1));
        Check.due("load(0)", 34, x.load(0));
        Check.due("load(1)", 78, x.load(1));
        Check.due("temperature(2)", GONE, x.temperature(2));
        Check.due("temperature(-1)", GONE, x.temperature(-1));
        Check.due("load(2)", GONE, x.load(2));
        Check.due("load(-1)", GONE, x.load(-1));
        Check.fine(x, 1, "load 1 = 90;");
        x.run(1);
        Check.due("load(1) by a rule", 90, x.load(1));
    }

    /** Promise 31: three terms, each truncated for itself. */
    static void absorbedHeat() {
        LouvreCraft x = new LouvreCraft();
        Check.due("no node", GONE, x.absorbedHeat(0));
        x.addNode(1000, 0, 13, 7, 0);
        x.addNode(1000, 0, 10000, 10000, 0);
        Check.due("node -1", GONE, x.absorbedHeat(-1));
        Check.due("node 2", GONE, x.absorbedHeat(2));
        x.setOrbit(100, 40, 60, 1367, 33, 239);
        Check.due("in the sun", 7 * 1367 / 10 + 7 * 1367 * 33 / 1000 + 13 * 239 / 10, x.absorbedHeat(0));
        x.run(4);
        Check.due("in the shade", 13 * 239 / 10, x.absorbedHeat(0));
        x.setOrbit(100, 40, 40, 10000, 100, 10000);
        Check.due("the most", 30000000, x.absorbedHeat(1));
        x.setOrbit(100, 40, 40, 1, 1, 1);
        Check.due("truncated", 0 + 0 + 1, x.absorbedHeat(0));
    }

    /** Promise 32. */
    static void emittedHeat() {
        LouvreCraft x = new LouvreCraft();
        Check.due("no node", GONE, x.emittedHeat(0));
        x.addNode(100000, 20849, 100, 0, 0);
        Check.due("node -1", GONE, x.emittedHeat(-1));
        Check.due("node 1", GONE, x.emittedHeat(1));
        Check.due("293.999 kelvin", emission(100, 293), x.emittedHeat(0));
        x.setTemperature(0, 20850);
        Check.due("294 kelvin", emission(100, 294), x.emittedHeat(0));
        x.setTemperature(0, -200000);
        Check.due("the coldest", emission(100, 73), x.emittedHeat(0));
        x.setTemperature(0, 200000);
        Check.due("the hottest", emission(100, 473), x.emittedHeat(0));
        x.setTemperature(0, 5000);
        x.addLouvre(0, 999, 0, 10000, 1);
        x.addLouvre(0, 1999, 0, 10000, 3);
        Check.due("louvres closed", emission(100, 278), x.emittedHeat(0));
        x.run(1);
        x.setTemperature(0, 5000);
        Check.due("each louvre truncated: 0 and 5", emission(105, 278), x.emittedHeat(0));
        x.addNode(1, 199999, 10000, 0, 0);
        for (int louvre = 0; louvre < 4; louvre++) {
            x.addLouvre(1, 10000, -200000, -199999, 1000);
        }
        x.run(1);
        x.setTemperature(1, 200000);
        Check.due("the most of 64 bits", emission(50000, 473), x.emittedHeat(1));
        Check.due("the first node alone", emission(100 + 1 + 11, 278), x.emittedHeat(0));
    }

    /** Promise 33. */
    static void conductedHeat() {
        LouvreCraft x = new LouvreCraft();
        Check.due("no node", GONE, x.conductedHeat(0));
        x.addNode(1000, 0, 0, 0, 0);
        x.addNode(1000, 1999, 0, 0, 0);
        x.addNode(1000, -1999, 0, 0, 0);
        x.addNode(1000, 200000, 0, 0, 0);
        Check.due("node -1", GONE, x.conductedHeat(-1));
        Check.due("node 4", GONE, x.conductedHeat(4));
        Check.due("no links", 0, x.conductedHeat(0));
        x.link(0, 1, 1);
        Check.due("from 1", 1, x.conductedHeat(0));
        Check.due("to 0", -1, x.conductedHeat(1));
        x.link(2, 0, 1);
        Check.due("each link truncated towards zero", 0, x.conductedHeat(0));
        Check.due("from 0", 1, x.conductedHeat(2));
        x.setTemperature(2, -200000);
        x.link(3, 2, 100000);
        Check.due("the most", 40000000 + 200, x.conductedHeat(2));
        Check.due("the least", -40000000, x.conductedHeat(3));
    }

    /** Promise 34. */
    static void netHeat() {
        LouvreCraft x = new LouvreCraft();
        Check.due("no node", GONE, x.netHeat(0));
        x.addNode(100000, 0, 30, 20, 111);
        x.addNode(100000, 10000, 0, 0, 0);
        Check.due("node -1", GONE, x.netHeat(-1));
        Check.due("node 2", GONE, x.netHeat(2));
        x.link(0, 1, 50);
        x.addHeater(0, 1000, 5000, 5000, 0);
        x.addHeater(0, 2000, 5000, 5000, 0);
        x.addHeater(0, 4000, 5000, 5000, 0);
        x.addHeater(1, 8000, 20000, 20000, 0);
        long without = 111 + 20 * 1361 / 10 + 500 - emission(30, 273);
        Check.due("heaters off", without, x.netHeat(0));
        x.setPower(5500, 0, 0, 0);
        x.run(1);
        x.setTemperature(0, 0);
        x.setTemperature(1, 10000);
        Check.due("two heaters on", without + 3000, x.netHeat(0));
        Check.due("its heater is shed", -500, x.netHeat(1));
        x.addLouvre(0, 1000, -10000, 10000, 70);
        x.setPower(8000, 0, 0, 0);
        x.setMode(0, 2);
        x.setMode(1, 2);
        x.setMode(2, 2);
        x.run(1);
        x.setTemperature(0, 0);
        x.setTemperature(1, 10000);
        Check.due("the heater of node 1", 7500, x.netHeat(1));
        x.setPower(5500, 0, 0, 0);
        x.setMode(1, 1);
        x.setMode(3, 2);
        x.run(1);
        x.setTemperature(0, 0);
        x.setTemperature(1, 10000);
        Check.due("louvre open", without + 2000 + emission(30, 273) - emission(170, 273), x.netHeat(0));
    }

    /** Promise 35. */
    static void margin() {
        LouvreCraft x = new LouvreCraft();
        Check.due("no node", GONE, x.margin(0));
        x.addNode(1, 50, 0, 0, 0);
        Check.due("node -1", GONE, x.margin(-1));
        Check.due("node 1", GONE, x.margin(1));
        Check.due("at first", 199950, x.margin(0));
        x.setLimits(0, 40, 100);
        Check.due("to the lowest", 10, x.margin(0));
        x.setTemperature(0, 93);
        Check.due("to the highest", 7, x.margin(0));
        x.setTemperature(0, 100);
        Check.due("at the limit", 0, x.margin(0));
        x.setTemperature(0, 103);
        Check.due("above", -3, x.margin(0));
        x.setTemperature(0, 38);
        Check.due("below", -2, x.margin(0));
        x.setLimits(0, 200000, 200000);
        x.setTemperature(0, -200000);
        Check.due("far below", -400000, x.margin(0));
    }

    /** The fifth point of a step: all flows by the temperatures before it, the growth truncated towards zero. */
    static void warming() {
        LouvreCraft x = new LouvreCraft();
        x.addNode(300, 1000, 0, 0, 0);
        x.addNode(700, 0, 0, 0, 0);
        x.addNode(900, 0, 0, 0, 0);
        x.link(0, 1, 100);
        x.link(1, 2, 100);
        x.run(1);
        Check.due("gives 100", 1000 - 3, x.temperature(0));
        Check.due("takes 100", 1, x.temperature(1));
        Check.due("has nothing yet", 0, x.temperature(2));
        x.setLoad(2, 1000000);
        x.setStepLength(60);
        x.run(4);
        Check.due("not above the range", 200000, x.temperature(2));
        LouvreCraft cold = new LouvreCraft();
        cold.addNode(1, -199000, 10000, 0, 0);
        cold.setStepLength(60);
        cold.run(1);
        Check.due("not below the range", -200000, cold.temperature(0));
        // The sun of a step is the one at its beginning.
        LouvreCraft shade = new LouvreCraft();
        shade.addNode(1000, 0, 0, 100, 0);
        shade.setOrbit(100, 10, 20, 1000, 0, 0);
        shade.run(1);
        Check.due("sun", 100, shade.temperature(0));
        shade.run(1);
        Check.due("shade", 100, shade.temperature(0));
        shade.run(1);
        Check.due("sun again", 200, shade.temperature(0));
    }
}
