/** Promises 57 and 58: saved states. */
public final class SavedStatesTest {
    public static void main(String[] args) {
        slots();
        everythingComesBack();
        partsThatCameLater();
        wishes();
        Check.finish();
    }

    static void slots() {
        LouvreCraft x = new LouvreCraft();
        Check.due("save(-1)", false, x.save(-1));
        Check.due("save(2)", false, x.save(2));
        Check.due("restore(-1)", false, x.restore(-1));
        Check.due("restore(2)", false, x.restore(2));
        Check.due("restore(0)", false, x.restore(0));
        x.addNode(1000, 1, 0, 0, 0);
        Check.due("save(0)", true, x.save(0));
        Check.due("restore(1)", false, x.restore(1));
        x.setTemperature(0, 2);
        Check.due("save(1)", true, x.save(1));
        x.setTemperature(0, 3);
        Check.due("restore(2)", false, x.restore(2));
        Check.due("nothing changes", 3, x.temperature(0));
        Check.due("restore(0)", true, x.restore(0));
        Check.due("temperature", 1, x.temperature(0));
        Check.due("restore(1)", true, x.restore(1));
        Check.due("temperature", 2, x.temperature(0));
        x.setTemperature(0, 4);
        Check.due("restore(1) again", true, x.restore(1));
        Check.due("it stays saved", 2, x.temperature(0));
        x.setTemperature(0, 5);
        Check.due("save(0) again", true, x.save(0));
        x.setTemperature(0, 6);
        Check.due("restore(0)", true, x.restore(0));
        Check.due("replaced", 5, x.temperature(0));
    }

    private static void change(LouvreCraft x) {
        x.setLimits(0, -200000, 200000);
        x.setTemperature(0, 150000);
        x.setLoad(0, 999);
        x.link(0, 1, 0);
        x.link(1, 2, 9);
        x.setMode(0, 2);
        x.setMode(1, 1);
        x.setOrbit(77, 1, 2, 3, 4, 5);
        x.setPower(1, 2, 3, 3);
        x.setStepLength(3);
        Check.fine(x, 2, "louvre 0 free; heater 1 off;");
        x.run(50);
        x.resetRecords();
        x.setLimits(2, 199999, 200000);
        x.run(1);
        x.addNode(5, 5, 5, 5, 5);
        x.addLouvre(3, 5, 5, 6, 5);
        x.addHeater(3, 5, 5, 6, 9);
        x.run(1);
    }

    private static long[] answers(LouvreCraft x) {
        long[] all = new long[200];
        int n = 0;
        for (int node = 0; node < 4; node++) {
            all[n++] = x.temperature(node);
            all[n++] = x.load(node);
            all[n++] = x.margin(node);
            all[n++] = x.lowest(node);
            all[n++] = x.highest(node);
            all[n++] = x.violations(node);
            all[n++] = x.firstViolation(node);
            all[n++] = x.absorbedHeat(node);
            all[n++] = x.emittedHeat(node);
            all[n++] = x.conductedHeat(node);
            all[n++] = x.netHeat(node);
            all[n++] = x.violator(node);
            all[n++] = x.energy(node);
            all[n++] = x.opening(node);
            all[n++] = x.target(node);
            all[n++] = x.isHeld(node);
            all[n++] = x.heaterMode(node);
            all[n++] = x.heaterState(node);
            all[n++] = x.ruleHolds(node);
            all[n++] = x.conductance(node, 1);
        }
        all[n++] = x.nodeCount();
        all[n++] = x.linkCount();
        all[n++] = x.louvreCount();
        all[n++] = x.heaterCount();
        all[n++] = x.ruleCount();
        all[n++] = x.violatorCount();
        all[n++] = x.shedCount();
        all[n++] = x.time();
        all[n++] = x.phase();
        all[n++] = x.isSunlit() ? 1 : 0;
        all[n++] = x.charge();
        all[n++] = x.usedPower();
        all[n++] = x.stepsToViolation(-1, 100);
        all[n++] = x.extremeAhead(0, 30, true);
        all[n++] = x.extremeAhead(1, 30, false);
        return all;
    }

    private static void same(String what, long[] want, long[] got) {
        for (int i = 0; i < want.length; i++) {
            Check.due(what + ", answer " + i, want[i], got[i]);
        }
    }

    private static LouvreCraft built() {
        LouvreCraft x = new LouvreCraft();
        x.addNode(100, 0, 100, 50, 10);
        x.addNode(200, 10000, 30, 40, 500);
        x.addNode(300, -5000, 20, 10, 0);
        x.link(0, 1, 300);
        x.link(0, 2, 20);
        x.setLimits(0, -100, 2000);
        x.setLimits(1, -100, 9900);
        x.addLouvre(1, 500, 0, 20000, 20);
        x.addLouvre(0, 500, -10000, 20000, 30);
        x.addHeater(0, 300, 5000, 6000, 1);
        x.addHeater(1, 400, 20000, 30000, 2);
        x.addHeater(1, 0, 20000, 30000, 2);
        x.setOrbit(600, 100, 300, 1300, 30, 20);
        x.setPower(600, 50, 100000, 4000);
        x.setStepLength(5);
        Check.fine(x, 3, "when temp 0 > 500: louvre 0 hold; when used > 300: heater 0 auto; load 2 = phase;");
        x.run(40);
        return x;
    }

    static void everythingComesBack() {
        LouvreCraft x = built();
        long[] before = answers(x);
        Check.error(x, 1, 0, "?");
        x.save(1);
        change(x);
        long[] changed = answers(x);
        int differences = 0;
        for (int i = 0; i < before.length; i++) {
            differences += before[i] == changed[i] ? 0 : 1;
        }
        Check.due("most has changed", true, differences > 60);
        Check.error(x, 1, 4, "load");
        x.appendText('l' << 24 | 'o' << 16 | 'a' << 8 | 'd');
        x.appendText(' ' << 24 | '2' << 16 | '=' << 8 | '7');
        Check.due("restore", true, x.restore(1));
        same("restored", before, answers(x));
        Check.due("the error code is not saved", 1, x.errorCode());
        Check.due("the error position is not saved", 4, x.errorPosition());
        Check.due("the text is not saved", 8, x.truncateText(8));
        Check.due("step length", 5, x.setStepLength(5));
        LouvreCraft other = built();
        x.run(100);
        other.run(100);
        same("restored and gone on", answers(other), answers(x));
        x.restore(1);
        same("restored again", before, answers(x));
    }

    /** A thermostat goes on with the wish that it had. */
    static void wishes() {
        LouvreCraft x = new LouvreCraft();
        x.addNode(100000, 0, 0, 0, 0);
        x.addHeater(0, 100, 1000, 2000, 0);
        x.setPower(100, 0, 0, 0);
        x.run(1);
        x.setTemperature(0, 1500);
        x.save(0);
        x.setTemperature(0, 3000);
        x.run(1);
        Check.due("no wish", 0, x.heaterState(0));
        x.setTemperature(0, 1500);
        x.save(1);
        x.restore(0);
        x.run(1);
        Check.due("the wish is back", 1, x.heaterState(0));
        x.restore(1);
        x.run(1);
        Check.due("and gone again", 0, x.heaterState(0));
    }

    /** A part that is added where a part was before has nothing of it. */
    static void partsThatCameLater() {
        LouvreCraft x = new LouvreCraft();
        x.addNode(100000, 5000, 0, 0, 0);
        x.save(0);
        x.addNode(1, 70, 0, 0, 10);
        x.setLimits(1, 0, 1);
        x.link(0, 1, 50);
        x.addLouvre(0, 100, 0, 10000, 100);
        x.addHeater(0, 100, 100000, 100000, 9);
        x.addHeater(0, 100, 100000, 100000, 3);
        x.setMode(0, 1);
        x.setPower(100, 0, 0, 0);
        x.run(1);
        Check.fine(x, 1, "louvre 0 hold;");
        x.run(1);
        Check.due("open", 100, x.opening(0));
        Check.fine(x, 0, "");
        x.restore(0);
        Check.due("nodes", 1, x.nodeCount());
        Check.due("node 1", LouvreCraft.NO_SUCH_PART, x.temperature(1));
        Check.due("louvre 0", LouvreCraft.NO_SUCH_PART, x.opening(0));
        Check.due("heater 0", LouvreCraft.NO_SUCH_PART, x.heaterState(0));
        Check.due("node 1 anew", 1, x.addNode(1000, 80, 0, 0, 0));
        Check.due("margin", 199920, x.margin(1));
        Check.due("violations", 0, x.violations(1));
        Check.due("firstViolation", -1, x.firstViolation(1));
        Check.due("lowest", 80, x.lowest(1));
        Check.due("conductance", 0, x.conductance(0, 1));
        Check.due("louvre 0 anew", 0, x.addLouvre(0, 100, 0, 10000, 100));
        Check.due("free", 0, x.isHeld(0));
        Check.due("closed", 0, x.opening(0));
        Check.due("heater 0 anew", 0, x.addHeater(0, 100, -200000, 100000, 2));
        Check.due("heater 1 anew", 1, x.addHeater(0, 100, 100000, 100000, 3));
        Check.due("mode", 0, x.heaterMode(0));
        Check.due("state", 0, x.heaterState(0));
        x.setPower(100, 0, 0, 0);
        x.run(1);
        Check.due("no wish", 0, x.heaterState(0));
        Check.due("on", 1, x.heaterState(1));
        x.setMode(0, 1);
        x.run(1);
        Check.due("priority", 2, x.heaterState(0));
    }
}
