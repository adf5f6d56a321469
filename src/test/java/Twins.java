import java.util.function.Supplier;

/** Two crafts that are built alike: one hears a call that may not leave a trace, the other one does not. */
final class Twins {
    interface Call {
        long on(LouvreCraft x);
    }

    interface ValueCall {
        long on(LouvreCraft x, int value);
    }

    private Twins() {
    }

    /** Something of everything: records with violations, a saved state, rules, an error, and a text that is begun. */
    static LouvreCraft built() {
        LouvreCraft x = new LouvreCraft();
        x.addNode(100, 0, 100, 50, 10);
        x.addNode(200, 10000, 30, 40, 500);
        x.addNode(300, -5000, 20, 10, 0);
        x.link(0, 1, 300);
        x.link(0, 2, 20);
        x.setLimits(0, -100, 2000);
        x.setLimits(1, -100, 9900);
        x.addLouvre(1, 500, 0, 20000, 20);
        x.addLouvre(0, 500, -10000, 20000, 30);
        x.addHeater(0, 300, 5000, 6000, 1);
        x.addHeater(1, 400, 20000, 30000, 2);
        x.addHeater(1, 900, 20000, 30000, 2);
        x.setOrbit(600, 100, 300, 1300, 30, 20);
        x.setPower(600, 50, 100000, 4000);
        x.setStepLength(5);
        Check.load(x, "when temp 0 > 500: louvre 0 hold; load 2 = phase;");
        x.run(20);
        x.save(0);
        x.run(20);
        Check.load(x, "load ?");
        Check.write(x, "heater 0 off;");
        return x;
    }

    /** As many nodes, links, louvres, heaters and rules as there can be. */
    static LouvreCraft full() {
        LouvreCraft x = new LouvreCraft();
        for (int node = 0; node < 12; node++) {
            x.addNode(1000, 1000 * node, 10, 10, 100);
        }
        for (int a = 0; a < 12; a++) {
            x.link(a, (a + 1) % 12, 100 + a);
            x.link(a, (a + 3) % 12, 50 + a);
        }
        for (int part = 0; part < 8; part++) {
            x.addHeater(part, 100 + part, 100000, 100000, part % 3);
        }
        for (int part = 0; part < 6; part++) {
            x.addLouvre(part, 10, 0, 10000, 100);
        }
        x.setPower(350, 10, 100000, 5000);
        Check.load(x, "load 0=1;load 1=2;load 2=3;load 3=4;load 4=5;load 5=6;load 6=7;load 7=8;load 8=9;load 9=10;load 10=11;load 11=12;");
        x.run(3);
        return x;
    }

    /** A text of as many bytes as there can be, which is a rule with 246 ones. */
    static LouvreCraft fullText() {
        LouvreCraft x = new LouvreCraft();
        x.addNode(1000, 0, 0, 0, 0);
        StringBuilder text = new StringBuilder("load 0=1");
        while (text.length() < 498) {
            text.append("+1");
        }
        Check.write(x, text + " ;");
        return x;
    }

    /** The answer is due, and the call leaves no trace. */
    static void refused(String what, long want, Call call) {
        refused(what, want, Twins::built, call);
    }

    static void refused(String what, long want, Supplier<LouvreCraft> maker, Call call) {
        LouvreCraft x = maker.get();
        LouvreCraft y = maker.get();
        Check.due(what, want, call.on(x));
        alike(what, x, y);
        Check.due(what + ", then run(7)", y.run(7), x.run(7));
        Check.due(what + ", then appendText", y.appendText(0x20202020), x.appendText(0x20202020));
        Check.due(what + ", then loadRules", y.loadRules(), x.loadRules());
        Check.due(what + ", then run(1)", y.run(1), x.run(1));
        alike(what + ", then loadRules", x, y);
        for (int slot = 0; slot < 2; slot++) {
            Check.due(what + ", then restore", y.restore(slot), x.restore(slot));
        }
        alike(what + ", then restore", x, y);
        Check.due(what + ", then setStepLength", y.setStepLength(9), x.setStepLength(9));
    }

    /** The values next to a range, and the least and the greatest of all, are refused; its two ends are not. */
    static void range(String what, int least, int most, long refusal, ValueCall call) {
        for (int value : new int[] {least - 1, most + 1, Integer.MIN_VALUE, Integer.MAX_VALUE}) {
            refused(what + " " + value, refusal, x -> call.on(x, value));
        }
        for (int value : new int[] {least, most}) {
            long answer = call.on(built(), value);
            Check.due(what + " " + value + " is in range, but " + answer, true, answer != refusal);
        }
    }

    static void alike(String what, LouvreCraft x, LouvreCraft y) {
        long[] want = answers(y);
        long[] got = answers(x);
        for (int i = 0; i < want.length; i++) {
            Check.due(what + ", answer " + i, want[i], got[i]);
        }
    }

    /** What can be asked, so that an object is asked no more than 512 times: less of the nodes from the fourth one on. */
    static long[] answers(LouvreCraft x) {
        long[] all = new long[200];
        int n = 0;
        all[n++] = x.nodeCount();
        all[n++] = x.linkCount();
        all[n++] = x.louvreCount();
        all[n++] = x.heaterCount();
        all[n++] = x.ruleCount();
        all[n++] = x.violatorCount();
        all[n++] = x.shedCount();
        all[n++] = x.time();
        all[n++] = x.phase();
        all[n++] = x.isSunlit() ? 1 : 0;
        all[n++] = x.charge();
        all[n++] = x.usedPower();
        all[n++] = x.errorCode();
        all[n++] = x.errorPosition();
        for (int i = 0; i < 3; i++) {
            all[n++] = x.lowest(i);
            all[n++] = x.highest(i);
            all[n++] = x.violations(i);
            all[n++] = x.firstViolation(i);
            all[n++] = x.absorbedHeat(i);
            all[n++] = x.emittedHeat(i);
            all[n++] = x.conductedHeat(i);
            all[n++] = x.violator(i);
            all[n++] = x.energy(i);
            all[n++] = x.ruleHolds(i);
        }
        for (int node = 0; node <= Math.min(11, x.nodeCount()); node++) {
            all[n++] = x.temperature(node);
            all[n++] = x.load(node);
            all[n++] = x.netHeat(node);
            all[n++] = x.margin(node);
        }
        for (int heater = 0; heater <= Math.min(7, x.heaterCount()); heater++) {
            all[n++] = x.heaterMode(heater);
            all[n++] = x.heaterState(heater);
        }
        for (int louvre = 0; louvre <= Math.min(5, x.louvreCount()); louvre++) {
            all[n++] = x.opening(louvre);
            all[n++] = x.isHeld(louvre);
        }
        return all;
    }
}
