/** Promises 20 to 28: orbit, power, time and steps. */
public final class OrbitTest {
    private static final int RANGE = LouvreCraft.OUT_OF_RANGE;

    public static void main(String[] args) {
        setOrbit();
        sunAndShade();
        setPower();
        sharing();
        battery();
        setStepLength();
        run();
        endOfTime();
        timeAndPhase();
        usedPower();
        Check.finish();
    }

    /** Promise 20. */
    static void setOrbit() {
        LouvreCraft x = new LouvreCraft();
        x.addNode(1000, 0, 300, 700, 0);
        x.run(3);
        Check.due("period 0", RANGE, x.setOrbit(0, 0, 0, 0, 0, 0));
        Check.due("period 100001", RANGE, x.setOrbit(100001, 0, 0, 0, 0, 0));
        Check.due("shadeFrom -1", RANGE, x.setOrbit(100, -1, 0, 0, 0, 0));
        Check.due("shadeFrom 101", RANGE, x.setOrbit(100, 101, 101, 0, 0, 0));
        Check.due("shadeTo before", RANGE, x.setOrbit(100, 50, 49, 0, 0, 0));
        Check.due("shadeTo 101", RANGE, x.setOrbit(100, 50, 101, 0, 0, 0));
        Check.due("flux -1", RANGE, x.setOrbit(100, 0, 0, -1, 0, 0));
        Check.due("flux 10001", RANGE, x.setOrbit(100, 0, 0, 10001, 0, 0));
        Check.due("albedo -1", RANGE, x.setOrbit(100, 0, 0, 0, -1, 0));
        Check.due("albedo 101", RANGE, x.setOrbit(100, 0, 0, 0, 101, 0));
        Check.due("infrared -1", RANGE, x.setOrbit(100, 0, 0, 0, 0, -1));
        Check.due("infrared 10001", RANGE, x.setOrbit(100, 0, 0, 0, 0, 10001));
        Check.due("as it was", 700 * 1361 / 10, x.absorbedHeat(0));
        Check.due("least", 0, x.setOrbit(1, 0, 0, 0, 0, 0));
        Check.due("no flux", 0, x.absorbedHeat(0));
        Check.due("phase", 0, x.phase());
        Check.due("greatest", 0, x.setOrbit(100000, 100000, 100000, 10000, 100, 10000));
        Check.due("heat", 700000 + 700000 + 300000, x.absorbedHeat(0));
        Check.due("the time stays", 30, x.time());
        Check.due("phase", 30, x.phase());
        Check.due("in the shade", 0, x.setOrbit(100000, 0, 100000, 10000, 100, 10000));
        Check.due("infrared alone", 300000, x.absorbedHeat(0));
    }

    /** Promise 26, at the edges of the shade. */
    static void sunAndShade() {
        LouvreCraft x = new LouvreCraft();
        x.setStepLength(1);
        x.setOrbit(10, 3, 5, 0, 0, 0);
        for (int second = 0; second < 25; second++) {
            int phase = second % 10;
            Check.due("sun at " + second, phase != 3 && phase != 4, x.isSunlit());
            x.run(1);
        }
        x.setOrbit(10, 5, 5, 0, 0, 0);
        Check.due("no shade", true, x.isSunlit());
        x.setOrbit(10, 0, 10, 0, 0, 0);
        Check.due("no sun", false, x.isSunlit());
    }

    /** Promises 21 and 27. */
    static void setPower() {
        LouvreCraft x = new LouvreCraft();
        Check.due("array -1", RANGE, x.setPower(-1, 0, 0, 0));
        Check.due("array 1000001", RANGE, x.setPower(1000001, 0, 0, 0));
        Check.due("base -1", RANGE, x.setPower(0, -1, 0, 0));
        Check.due("base 1000001", RANGE, x.setPower(0, 1000001, 0, 0));
        Check.due("capacity -1", RANGE, x.setPower(0, 0, -1, 0));
        Check.due("capacity 1000000001", RANGE, x.setPower(0, 0, 1000000001, 0));
        Check.due("charge -1", RANGE, x.setPower(0, 0, 5, -1));
        Check.due("charge above capacity", RANGE, x.setPower(0, 0, 5, 6));
        Check.due("charge as it was", 0, x.charge());
        Check.due("full", 0, x.setPower(1000000, 1000000, 1000000000, 1000000000));
        Check.due("charge", 1000000000, x.charge());
        x.run(1);
        Check.due("array and base even out", 1000000000, x.charge());
        Check.due("empty", 0, x.setPower(0, 0, 1000, 0));
        Check.due("charge", 0, x.charge());
        Check.due("part", 0, x.setPower(7, 2, 1000, 600));
        x.run(1);
        Check.due("charged", 650, x.charge());
    }

    /** The fourth point of a step: who gets the power. */
    static void sharing() {
        LouvreCraft x = new LouvreCraft();
        x.addNode(100000, 0, 0, 0, 0);
        x.addHeater(0, 400, 1000, 1000, 3);
        x.addHeater(0, 300, 1000, 1000, 5);
        x.addHeater(0, 500, 1000, 1000, 5);
        x.addHeater(0, 200, 1000, 1000, 9);
        x.addHeater(0, 100, 1000, 1000, 0);
        x.addHeater(0, 0, 1000, 1000, 0);
        x.addHeater(0, 1, -1000, 1000, 9);
        // 200 to heater 3, 300 to 1, then 500 is too much for 2, 400 for 0, but 100 is there for 4.
        x.setPower(1600, 1000, 0, 0);
        x.run(1);
        int[] states = {2, 1, 2, 1, 1, 1, 0};
        for (int heater = 0; heater < 7; heater++) {
            Check.due("state of " + heater, states[heater], x.heaterState(heater));
        }
        Check.due("used", 600, x.usedPower());
        Check.due("shed", 2, x.shedCount());
        // Less than nothing is nothing: only the heater without a power is on.
        x.setPower(0, 1000, 0, 0);
        x.run(1);
        for (int heater = 0; heater < 7; heater++) {
            Check.due("state of " + heater, heater == 6 ? 0 : heater == 5 ? 1 : 2, x.heaterState(heater));
        }
        Check.due("shed", 7, x.shedCount());
        // A battery gives what it can give for a whole step, here 1499 milliwatts, of which 899 are left.
        x.setPower(0, 600, 20000, 14999);
        x.run(1);
        int[] later = {2, 1, 2, 1, 1, 1, 0};
        for (int heater = 0; heater < 7; heater++) {
            Check.due("later state of " + heater, later[heater], x.heaterState(heater));
        }
        Check.due("charge", 14999 - 10 * (600 + 600), x.charge());
        x.setPower(0, 599, 20000, 14999);
        x.run(1);
        Check.due("900 is less than 200, 300 and 500", 2, x.heaterState(2));
        x.setPower(0, 499, 20000, 14999);
        x.run(1);
        Check.due("1000 is just enough", 1, x.heaterState(2));
        Check.due("none left for heater 4", 2, x.heaterState(4));
        LouvreCraft small = new LouvreCraft();
        small.addNode(1000, 0, 0, 0, 0);
        small.addHeater(0, 1, 1000, 1000, 0);
        small.run(1);
        Check.due("nothing is less than 1", 2, small.heaterState(0));
        // In the shade the array gives nothing.
        x.setOrbit(100, 0, 100, 0, 0, 0);
        x.setPower(1000000, 0, 0, 0);
        x.run(1);
        Check.due("in the shade", 2, x.heaterState(3));
    }

    static void battery() {
        LouvreCraft x = new LouvreCraft();
        x.addNode(100000, 0, 0, 0, 0);
        x.addHeater(0, 400, 1000, 1000, 3);
        x.setPower(1000, 100, 10000, 2000);
        x.run(1);
        Check.due("grows", 2000 + 10 * (1000 - 100 - 400), x.charge());
        x.run(1);
        Check.due("is full", 10000, x.charge());
        x.setOrbit(100, 0, 100, 0, 0, 0);
        x.run(1);
        Check.due("shrinks in the shade", 5000, x.charge());
        x.run(1);
        Check.due("500 - 100 is enough", 0, x.charge());
        x.run(1);
        Check.due("is empty", 0, x.charge());
        Check.due("and sheds", 2, x.heaterState(0));
        x.setPower(0, 1000000, 1000000000, 59);
        x.setStepLength(60);
        x.run(1);
        Check.due("not below 0", 0, x.charge());
        x.setOrbit(100, 0, 0, 0, 0, 0);
        x.setPower(1000000, 0, 1000000000, 1000000000);
        x.run(1);
        Check.due("not above the capacity", 1000000000, x.charge());
    }

    /** Promise 22. */
    static void setStepLength() {
        LouvreCraft x = new LouvreCraft();
        Check.due("0", RANGE, x.setStepLength(0));
        Check.due("-1", RANGE, x.setStepLength(-1));
        Check.due("61", RANGE, x.setStepLength(61));
        Check.due("60", 10, x.setStepLength(60));
        x.run(1);
        Check.due("time", 60, x.time());
        Check.due("1", 60, x.setStepLength(1));
        x.run(1);
        Check.due("time", 61, x.time());
        Check.due("1 again", 1, x.setStepLength(1));
        x.addNode(100, 0, 0, 0, 7);
        x.setStepLength(29);
        x.run(1);
        Check.due("7 * 29 / 100", 2, x.temperature(0));
    }

    /** Promise 23. */
    static void run() {
        LouvreCraft x = new LouvreCraft();
        Check.due("0", RANGE, x.run(0));
        Check.due("-1", RANGE, x.run(-1));
        Check.due("1001", RANGE, x.run(1001));
        Check.due("no step yet", 0, x.time());
        Check.due("without nodes", 0, x.run(1000));
        Check.due("time", 10000, x.time());
        x.addNode(100, 0, 0, 0, 100);
        x.addNode(100, 0, 0, 0, 200);
        x.setLimits(0, -5, 50);
        x.setLimits(1, -5, 70);
        Check.due("steps 4 and 5, not 7 violations", 2, x.run(5));
        Check.due("violations of 0", 0, x.violations(0));
        Check.due("violations of 1", 2, x.violations(1));
        Check.due("both in each step", 3, x.run(3));
        Check.due("the limits of temperatures are 200000", 10, x.run(10));
        x.setLoad(0, 1000000);
        x.run(10);
        Check.due("not above 200000", 200000, x.temperature(0));
    }

    /** More calls than the document promises for, as 512 of them do not get to the greatest time. */
    static void endOfTime() {
        LouvreCraft x = new LouvreCraft();
        x.setStepLength(60);
        for (int call = 0; call < 1666; call++) {
            x.run(1000);
        }
        Check.due("time", 99960000, x.time());
        Check.due("667 minutes are too many", RANGE, x.run(667));
        Check.due("666 are not", 0, x.run(666));
        x.setStepLength(41);
        Check.due("41 seconds are too many", RANGE, x.run(1));
        x.setStepLength(40);
        Check.due("40 are not", 0, x.run(1));
        Check.due("the end", 100000000, x.time());
        x.setStepLength(1);
        Check.due("no second more", RANGE, x.run(1));
        Check.due("forecasts go on", -1, x.stepsToViolation(-1, 2000));
    }

    /** Promises 24 and 25. */
    static void timeAndPhase() {
        LouvreCraft x = new LouvreCraft();
        x.setOrbit(95, 0, 0, 0, 0, 0);
        for (int step = 1; step <= 30; step++) {
            x.run(1);
            Check.due("time", 10 * step, x.time());
            Check.due("phase", 10 * step % 95, x.phase());
        }
        x.setOrbit(1, 0, 0, 0, 0, 0);
        Check.due("phase", 0, x.phase());
        x.setOrbit(300, 0, 0, 0, 0, 0);
        Check.due("phase", 0, x.phase());
        x.setOrbit(301, 0, 0, 0, 0, 0);
        Check.due("phase", 300, x.phase());
    }

    /** Promise 28. */
    static void usedPower() {
        LouvreCraft x = new LouvreCraft();
        x.addNode(100000, 0, 0, 0, 0);
        x.addHeater(0, 100000, 1000, 1000, 3);
        x.addHeater(0, 20, 1000, 1000, 3);
        x.addHeater(0, 3, 1000, 1000, 3);
        x.addHeater(0, 5, -1000, 1000, 3);
        Check.due("at first", 0, x.usedPower());
        x.setPower(100022, 0, 0, 0);
        x.run(1);
        Check.due("heater 2 is shed, heater 3 off", 100020, x.usedPower());
        x.setMode(0, 2);
        Check.due("until the next step", 100020, x.usedPower());
        x.run(1);
        Check.due("without heater 0", 23, x.usedPower());
    }
}
