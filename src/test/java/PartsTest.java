/** Promises 10 to 19: louvres and heaters. */
public final class PartsTest {
    private static final int GONE = LouvreCraft.NO_SUCH_PART;
    private static final int RANGE = LouvreCraft.OUT_OF_RANGE;
    private static final int FULL = LouvreCraft.FULL;

    public static void main(String[] args) {
        addLouvre();
        addHeater();
        counts();
        opening();
        target();
        isHeld();
        heaterState();
        heaterMode();
        setMode();
        thermostat();
        Check.finish();
    }

    private static LouvreCraft withNode(int temperature) {
        LouvreCraft x = new LouvreCraft();
        x.addNode(1000, temperature, 0, 0, 0);
        return x;
    }

    /** Promise 10. */
    static void addLouvre() {
        LouvreCraft x = withNode(5000);
        Check.due("node 1", GONE, x.addLouvre(1, 0, 0, 1, 1));
        Check.due("node -1", GONE, x.addLouvre(-1, -1, 0, 1, 1));
        Check.due("area -1", RANGE, x.addLouvre(0, -1, 0, 1, 1));
        Check.due("area 10001", RANGE, x.addLouvre(0, 10001, 0, 1, 1));
        Check.due("closed -200001", RANGE, x.addLouvre(0, 0, -200001, 1, 1));
        Check.due("closed 200000", RANGE, x.addLouvre(0, 0, 200000, 200001, 1));
        Check.due("closed as an int can be", RANGE, x.addLouvre(0, 0, Integer.MAX_VALUE, 0, 1));
        Check.due("open as closed", RANGE, x.addLouvre(0, 0, 5, 5, 1));
        Check.due("open 200001", RANGE, x.addLouvre(0, 0, 5, 200001, 1));
        Check.due("rate 0", RANGE, x.addLouvre(0, 0, 0, 1, 0));
        Check.due("rate 1001", RANGE, x.addLouvre(0, 0, 0, 1, 1001));
        Check.due("no louvre yet", 0, x.louvreCount());
        Check.due("first", 0, x.addLouvre(0, 10000, 199999, 200000, 1000));
        Check.due("second", 1, x.addLouvre(0, 0, -200000, -199999, 1));
        Check.due("third", 2, x.addLouvre(0, 100, 0, 10000, 100));
        Check.due("opening", 0, x.opening(2));
        Check.due("free", 0, x.isHeld(2));
        for (int louvre = 3; louvre < 6; louvre++) {
            Check.due("louvre", louvre, x.addLouvre(0, 0, 0, 1, 1));
        }
        Check.due("7th", FULL, x.addLouvre(0, 0, 0, 1, 1));
        Check.due("7th of no node", GONE, x.addLouvre(1, 0, 0, 1, 1));
        Check.due("7th out of range", RANGE, x.addLouvre(0, 0, 0, 0, 1));
        Check.due("six", 6, x.louvreCount());
        x.run(1);
        Check.due("moved by its rate", 1, x.opening(1));
        Check.due("moved by its rate", 100, x.opening(2));
        Check.due("emits through its area", 10L * 278 * 278 * 278 * 278 * 567 / 100000000000L, x.emittedHeat(0));
    }

    /** Promise 11. */
    static void addHeater() {
        LouvreCraft x = withNode(0);
        Check.due("node 1", GONE, x.addHeater(1, 0, 0, 0, 0));
        Check.due("node -1", GONE, x.addHeater(-1, -1, 0, 0, 0));
        Check.due("power -1", RANGE, x.addHeater(0, -1, 0, 0, 0));
        Check.due("power 100001", RANGE, x.addHeater(0, 100001, 0, 0, 0));
        Check.due("lower -200001", RANGE, x.addHeater(0, 0, -200001, 0, 0));
        Check.due("lower above higher", RANGE, x.addHeater(0, 0, 1, 0, 0));
        Check.due("higher 200001", RANGE, x.addHeater(0, 0, 0, 200001, 0));
        Check.due("both too low", RANGE, x.addHeater(0, 0, -200001, -200001, 0));
        Check.due("priority -1", RANGE, x.addHeater(0, 0, 0, 0, -1));
        Check.due("priority 10", RANGE, x.addHeater(0, 0, 0, 0, 10));
        Check.due("no heater yet", 0, x.heaterCount());
        Check.due("first", 0, x.addHeater(0, 100000, 200000, 200000, 9));
        Check.due("second", 1, x.addHeater(0, 0, -200000, -200000, 0));
        Check.due("state", 0, x.heaterState(0));
        Check.due("mode", 0, x.heaterMode(0));
        for (int heater = 2; heater < 8; heater++) {
            Check.due("heater", heater, x.addHeater(0, 0, 0, 0, 0));
        }
        Check.due("9th", FULL, x.addHeater(0, 0, 0, 0, 0));
        Check.due("9th of no node", GONE, x.addHeater(1, 0, 0, 0, 0));
        Check.due("9th out of range", RANGE, x.addHeater(0, 0, 0, 0, 10));
        Check.due("eight", 8, x.heaterCount());
        x.setPower(100000, 0, 0, 0);
        x.run(1);
        Check.due("heats with its power", 1000, x.temperature(0));
    }

    /** Promises 12 and 16. */
    static void counts() {
        LouvreCraft x = withNode(0);
        for (int i = 0; i < 6; i++) {
            Check.due("louvreCount", i, x.louvreCount());
            Check.due("heaterCount", i, x.heaterCount());
            x.addLouvre(0, 0, 0, 1, 1);
            x.addHeater(0, 0, 0, 0, 0);
        }
        Check.due("louvreCount", 6, x.louvreCount());
        Check.due("heaterCount", 6, x.heaterCount());
    }

    /** Promise 13, with the second point of a step. */
    static void opening() {
        LouvreCraft x = withNode(7000);
        Check.due("no louvre", GONE, x.opening(0));
        x.addLouvre(0, 0, 0, 10000, 300);
        Check.due("louvre -1", GONE, x.opening(-1));
        Check.due("louvre 1", GONE, x.opening(1));
        Check.due("at first", 0, x.opening(0));
        x.run(1);
        Check.due("up", 300, x.opening(0));
        x.run(1);
        Check.due("up", 600, x.opening(0));
        x.run(1);
        Check.due("up to the target", 700, x.opening(0));
        x.run(1);
        Check.due("there", 700, x.opening(0));
        x.setTemperature(0, 3500);
        Check.due("not yet", 700, x.opening(0));
        x.run(1);
        Check.due("down", 400, x.opening(0));
        x.run(1);
        Check.due("down to the target", 350, x.opening(0));
        x.setTemperature(0, 100000);
        x.run(5);
        Check.due("open", 1000, x.opening(0));
        x.setTemperature(0, -100000);
        x.run(3);
        Check.due("nearly closed", 100, x.opening(0));
        x.run(1);
        Check.due("closed", 0, x.opening(0));
    }

    /** Promise 14. */
    static void target() {
        LouvreCraft x = withNode(0);
        Check.due("no louvre", GONE, x.target(0));
        x.addLouvre(0, 0, 1000, 4000, 300);
        Check.due("louvre -1", GONE, x.target(-1));
        Check.due("below", 0, x.target(0));
        x.setTemperature(0, 1000);
        Check.due("closed", 0, x.target(0));
        x.setTemperature(0, 1002);
        Check.due("just open, truncated", 0, x.target(0));
        x.setTemperature(0, 1003);
        Check.due("just open", 1, x.target(0));
        x.setTemperature(0, 3000);
        Check.due("two thirds", 666, x.target(0));
        x.setTemperature(0, 3999);
        Check.due("nearly open", 999, x.target(0));
        x.setTemperature(0, 4000);
        Check.due("open", 1000, x.target(0));
        x.setTemperature(0, 200000);
        Check.due("hot", 1000, x.target(0));
        x.setTemperature(0, -200000);
        Check.due("cold", 0, x.target(0));
        x.addLouvre(0, 0, -200000, 200000, 300);
        x.setTemperature(0, 199999);
        Check.due("widest", 999, x.target(1));
        x.addLouvre(0, 0, -200000, -199999, 300);
        Check.due("narrowest", 1000, x.target(2));
    }

    /** Promise 15. */
    static void isHeld() {
        LouvreCraft x = withNode(5000);
        Check.due("no louvre", GONE, x.isHeld(0));
        x.addLouvre(0, 0, 0, 10000, 300);
        x.addLouvre(0, 0, 0, 10000, 300);
        Check.due("louvre -1", GONE, x.isHeld(-1));
        Check.due("louvre 2", GONE, x.isHeld(2));
        Check.fine(x, 1, "louvre 1 hold;");
        Check.due("not before a step", 0, x.isHeld(1));
        x.run(1);
        Check.due("0 is free", 0, x.isHeld(0));
        Check.due("1 is held", 1, x.isHeld(1));
        Check.due("0 opens", 300, x.opening(0));
        Check.due("1 does not", 0, x.opening(1));
        Check.fine(x, 0, "");
        x.run(1);
        Check.due("held without a rule", 1, x.isHeld(1));
        Check.fine(x, 1, "louvre 1 free;");
        x.run(1);
        Check.due("1 is free", 0, x.isHeld(1));
        Check.due("1 opens in the same step", 300, x.opening(1));
    }

    /** Promise 17: off, on and shed. */
    static void heaterState() {
        LouvreCraft x = withNode(0);
        Check.due("no heater", GONE, x.heaterState(0));
        x.addHeater(0, 5000, 1000, 2000, 0);
        x.addHeater(0, 5000, -1000, 2000, 0);
        Check.due("heater -1", GONE, x.heaterState(-1));
        Check.due("heater 2", GONE, x.heaterState(2));
        Check.due("off at first", 0, x.heaterState(0));
        x.run(1);
        Check.due("shed", 2, x.heaterState(0));
        Check.due("not wished", 0, x.heaterState(1));
        x.setPower(5000, 0, 0, 0);
        Check.due("still shed", 2, x.heaterState(0));
        x.run(1);
        Check.due("on", 1, x.heaterState(0));
        x.setTemperature(0, 2001);
        x.run(1);
        Check.due("off", 0, x.heaterState(0));
    }

    /** Promise 18. */
    static void heaterMode() {
        LouvreCraft x = withNode(0);
        Check.due("no heater", GONE, x.heaterMode(0));
        x.addHeater(0, 0, 0, 0, 0);
        x.addHeater(0, 0, 0, 0, 0);
        Check.due("heater -1", GONE, x.heaterMode(-1));
        Check.due("heater 2", GONE, x.heaterMode(2));
        x.setMode(1, 2);
        Check.due("0", 0, x.heaterMode(0));
        Check.due("1", 2, x.heaterMode(1));
        Check.fine(x, 2, "heater 0 on; heater 1 auto;");
        Check.due("not before a step", 0, x.heaterMode(0));
        x.run(1);
        Check.due("0 on", 1, x.heaterMode(0));
        Check.due("1 automatic", 0, x.heaterMode(1));
        Check.fine(x, 1, "heater 0 off;");
        x.run(1);
        Check.due("0 off", 2, x.heaterMode(0));
    }

    /** Promise 19. */
    static void setMode() {
        LouvreCraft x = withNode(0);
        Check.due("no heater", GONE, x.setMode(0, 0));
        x.addHeater(0, 10, -5, 5, 0);
        x.setPower(100, 0, 0, 0);
        Check.due("heater -1", GONE, x.setMode(-1, 3));
        Check.due("mode -1", RANGE, x.setMode(0, -1));
        Check.due("mode 3", RANGE, x.setMode(0, 3));
        Check.due("automatic", 0, x.setMode(0, 1));
        Check.due("mode", 1, x.heaterMode(0));
        Check.due("state not yet", 0, x.heaterState(0));
        x.run(1);
        Check.due("state", 1, x.heaterState(0));
        Check.due("on", 1, x.setMode(0, 0));
        x.run(1);
        Check.due("the wish stays between the temperatures", 1, x.heaterState(0));
        Check.due("automatic", 0, x.setMode(0, 2));
        Check.due("state not yet", 1, x.heaterState(0));
        x.run(1);
        Check.due("off", 0, x.heaterState(0));
        Check.due("off", 2, x.setMode(0, 0));
        x.run(1);
        Check.due("no wish stays too", 0, x.heaterState(0));
    }

    /** The third point of a step: a thermostat switches below the lower and above the higher temperature. */
    static void thermostat() {
        LouvreCraft x = withNode(0);
        x.addHeater(0, 0, 1000, 2000, 0);
        int[] temperatures = {1000, 999, 1000, 2000, 2001, 2000, 1000, 999, 2001};
        int[] states = {0, 1, 1, 1, 0, 0, 0, 1, 0};
        for (int i = 0; i < temperatures.length; i++) {
            x.setTemperature(0, temperatures[i]);
            x.run(1);
            Check.due("state " + i, states[i], x.heaterState(0));
        }
    }
}
