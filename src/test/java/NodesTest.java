/** Promises 1 to 9: a new object, nodes and links. */
public final class NodesTest {
    private static final int GONE = LouvreCraft.NO_SUCH_PART;
    private static final int RANGE = LouvreCraft.OUT_OF_RANGE;
    private static final int FULL = LouvreCraft.FULL;

    public static void main(String[] args) {
        constants();
        newObject();
        addNode();
        addNodeAtTheEdges();
        nodeCount();
        setLimits();
        setTemperature();
        setLoad();
        link();
        linksAreFull();
        conductance();
        linkCount();
        Check.finish();
    }

    static void constants() {
        Check.due("NONE", -1, LouvreCraft.NONE);
        Check.due("NO_SUCH_PART", -1000000001, LouvreCraft.NO_SUCH_PART);
        Check.due("OUT_OF_RANGE", -1000000002, LouvreCraft.OUT_OF_RANGE);
        Check.due("FULL", -1000000003, LouvreCraft.FULL);
        Check.due("SYNTAX_ERROR", -1000000004, LouvreCraft.SYNTAX_ERROR);
    }

    /** Promise 1, with the first values of the description. */
    static void newObject() {
        LouvreCraft x = new LouvreCraft();
        Check.due("time", 0, x.time());
        Check.due("nodes", 0, x.nodeCount());
        Check.due("links", 0, x.linkCount());
        Check.due("louvres", 0, x.louvreCount());
        Check.due("heaters", 0, x.heaterCount());
        Check.due("rules", 0, x.ruleCount());
        Check.due("violators", 0, x.violatorCount());
        Check.due("shed", 0, x.shedCount());
        Check.due("emitted", 0, x.energy(0));
        Check.due("absorbed", 0, x.energy(1));
        Check.due("heater energy", 0, x.energy(2));
        Check.due("charge", 0, x.charge());
        Check.due("used", 0, x.usedPower());
        Check.due("restore(0)", false, x.restore(0));
        Check.due("restore(1)", false, x.restore(1));
        Check.due("empty text", 4, x.appendText(0));
        Check.due("errorCode", 0, x.errorCode());
        Check.due("errorPosition", -1, x.errorPosition());
        Check.due("sun", true, x.isSunlit());
        Check.due("first step length", 10, x.setStepLength(1));
        x.addNode(1000, 0, 100, 100, 0);
        Check.due("first flux, no albedo, no infrared", 13610, x.absorbedHeat(0));
        x.run(1000);
        x.setStepLength(60);
        x.run(83);
        x.setStepLength(19);
        x.run(1);
        Check.due("time before the first period ends", 5999, x.time());
        Check.due("phase before the first period ends", 5999, x.phase());
        x.setStepLength(1);
        x.run(1);
        Check.due("phase after the first period", 0, x.phase());
        // Of two errors the part that is missing is named first, and room last.
        Check.due("setLimits(1, 5, 4)", GONE, x.setLimits(1, 5, 4));
        Check.due("addLouvre(1, -1, ..)", GONE, x.addLouvre(1, -1, 0, 10, 1));
        Check.due("addHeater(1, -1, ..)", GONE, x.addHeater(1, -1, 0, 10, 1));
        Check.due("link(1, 1, -1)", GONE, x.link(1, 1, -1));
    }

    /** Promise 2. */
    static void addNode() {
        LouvreCraft x = new LouvreCraft();
        Check.due("first node", 0, x.addNode(200, 25000, 10, 20, 300));
        Check.due("its temperature", 25000, x.temperature(0));
        Check.due("its load", 300, x.load(0));
        Check.due("its absorbed heat", 2722, x.absorbedHeat(0));
        Check.due("its emitted heat", 10L * 298 * 298 * 298 * 298 * 567 / 100000000000L, x.emittedHeat(0));
        Check.due("its margin", 175000, x.margin(0));
        Check.due("its lowest", 25000, x.lowest(0));
        Check.due("its highest", 25000, x.highest(0));
        Check.due("its violations", 0, x.violations(0));
        Check.due("its first violation", -1, x.firstViolation(0));
        x.setStepLength(20);
        long net = x.netHeat(0);
        x.run(1);
        Check.due("its capacity", 25000 + net * 20 / 200, x.temperature(0));
        for (int node = 1; node < 12; node++) {
            Check.due("node " + node, node, x.addNode(1, 0, 0, 0, node));
        }
        Check.due("13th node", FULL, x.addNode(1, 0, 0, 0, 0));
        Check.due("13th node out of range", RANGE, x.addNode(0, 0, 0, 0, 0));
        Check.due("still 12 nodes", 12, x.nodeCount());
        Check.due("load of the last node", 11, x.load(11));
    }

    static void addNodeAtTheEdges() {
        LouvreCraft x = new LouvreCraft();
        Check.due("capacity 0", RANGE, x.addNode(0, 0, 0, 0, 0));
        Check.due("capacity -1", RANGE, x.addNode(-1, 0, 0, 0, 0));
        Check.due("capacity 100001", RANGE, x.addNode(100001, 0, 0, 0, 0));
        Check.due("temperature -200001", RANGE, x.addNode(1, -200001, 0, 0, 0));
        Check.due("temperature 200001", RANGE, x.addNode(1, 200001, 0, 0, 0));
        Check.due("emitting -1", RANGE, x.addNode(1, 0, -1, 0, 0));
        Check.due("emitting 10001", RANGE, x.addNode(1, 0, 10001, 0, 0));
        Check.due("absorbing -1", RANGE, x.addNode(1, 0, 0, -1, 0));
        Check.due("absorbing 10001", RANGE, x.addNode(1, 0, 0, 10001, 0));
        Check.due("load -1", RANGE, x.addNode(1, 0, 0, 0, -1));
        Check.due("load 1000001", RANGE, x.addNode(1, 0, 0, 0, 1000001));
        Check.due("the least int", RANGE, x.addNode(Integer.MIN_VALUE, 0, 0, 0, 0));
        Check.due("no node yet", 0, x.nodeCount());
        Check.due("the least values", 0, x.addNode(1, -200000, 0, 0, 0));
        Check.due("the greatest values", 1, x.addNode(100000, 200000, 10000, 10000, 1000000));
    }

    /** Promise 3. */
    static void nodeCount() {
        LouvreCraft x = new LouvreCraft();
        for (int node = 0; node < 12; node++) {
            Check.due("nodeCount", node, x.nodeCount());
            x.addNode(1, 0, 0, 0, 0);
        }
        Check.due("nodeCount", 12, x.nodeCount());
    }

    /** Promise 4. */
    static void setLimits() {
        LouvreCraft x = new LouvreCraft();
        Check.due("no node", GONE, x.setLimits(0, 0, 0));
        x.addNode(1000, 500, 0, 0, 0);
        Check.due("node -1", GONE, x.setLimits(-1, 0, 0));
        Check.due("low below", RANGE, x.setLimits(0, -200001, 0));
        Check.due("low above high", RANGE, x.setLimits(0, 1, 0));
        Check.due("high above", RANGE, x.setLimits(0, 0, 200001));
        Check.due("both below", RANGE, x.setLimits(0, -200001, -200001));
        Check.due("limits as they were", 199500, x.margin(0));
        Check.due("all", 0, x.setLimits(0, -200000, 200000));
        Check.due("one", 0, x.setLimits(0, 500, 500));
        Check.due("margin", 0, x.margin(0));
        Check.due("at the limits", 0, x.run(1));
        Check.due("low limit", 0, x.setLimits(0, 501, 900));
        Check.due("below", 1, x.run(1));
        Check.due("high limit", 0, x.setLimits(0, 0, 499));
        Check.due("above", 1, x.run(1));
        Check.due("wide again", 0, x.setLimits(0, 0, 1000));
        Check.due("violations stay", 2, x.violations(0));
        Check.due("violator stays", 1, x.violatorCount());
        Check.due("first violation stays", 20, x.firstViolation(0));
    }

    /** Promise 5. */
    static void setTemperature() {
        LouvreCraft x = new LouvreCraft();
        Check.due("no node", GONE, x.setTemperature(0, 0));
        x.addNode(1000, 500, 0, 0, 0);
        Check.due("no second node", GONE, x.setTemperature(1, 300000));
        Check.due("too low", RANGE, x.setTemperature(0, -200001));
        Check.due("too high", RANGE, x.setTemperature(0, 200001));
        Check.due("as it was", 500, x.temperature(0));
        Check.due("lowest value", 500, x.setTemperature(0, -200000));
        Check.due("highest value", -200000, x.setTemperature(0, 200000));
        Check.due("next", 200000, x.setTemperature(0, 7));
        Check.due("temperature", 7, x.temperature(0));
        Check.due("lowest", 500, x.lowest(0));
        Check.due("highest", 500, x.highest(0));
        x.run(1);
        Check.due("lowest after a step", 7, x.lowest(0));
        Check.due("highest after a step", 500, x.highest(0));
    }

    /** Promise 6. */
    static void setLoad() {
        LouvreCraft x = new LouvreCraft();
        Check.due("no node", GONE, x.setLoad(0, 0));
        x.addNode(100, 0, 0, 0, 70);
        Check.due("too low", RANGE, x.setLoad(0, -1));
        Check.due("too high", RANGE, x.setLoad(0, 1000001));
        Check.due("node 12", GONE, x.setLoad(12, -1));
        Check.due("previous", 70, x.setLoad(0, 1000000));
        Check.due("load", 1000000, x.load(0));
        Check.due("net heat", 1000000, x.netHeat(0));
        Check.due("previous again", 1000000, x.setLoad(0, 0));
        Check.due("no load", 0, x.load(0));
    }

    /** Promise 7. */
    static void link() {
        LouvreCraft x = new LouvreCraft();
        Check.due("no nodes", GONE, x.link(0, 1, 1));
        x.addNode(100, 0, 0, 0, 0);
        x.addNode(100, 5000, 0, 0, 0);
        x.addNode(100, 0, 0, 0, 0);
        Check.due("no node a", GONE, x.link(3, 0, 1));
        Check.due("no node b", GONE, x.link(0, 3, 1));
        Check.due("node -1", GONE, x.link(-1, 0, 1));
        Check.due("to itself", RANGE, x.link(1, 1, 1));
        Check.due("conductance -1", RANGE, x.link(0, 1, -1));
        Check.due("conductance 100001", RANGE, x.link(0, 1, 100001));
        Check.due("nothing to remove", 0, x.link(0, 1, 0));
        Check.due("no links", 0, x.linkCount());
        Check.due("new", 0, x.link(0, 1, 100000));
        Check.due("the other way", 100000, x.link(1, 0, 20));
        Check.due("another", 0, x.link(2, 1, 30));
        Check.due("a third", 0, x.link(0, 2, 40));
        Check.due("removed", 20, x.link(0, 1, 0));
        Check.due("two links", 2, x.linkCount());
        Check.due("none", 0, x.conductance(0, 1));
        Check.due("the other one stays", 30, x.conductance(1, 2));
        Check.due("the third one stays", 40, x.conductance(2, 0));
        Check.due("heat through the other one", -150, x.conductedHeat(1));
        Check.due("new again", 0, x.link(0, 1, 1));
    }

    static void linksAreFull() {
        LouvreCraft x = new LouvreCraft();
        for (int node = 0; node < 12; node++) {
            x.addNode(100, 0, 0, 0, 0);
        }
        int links = 0;
        for (int a = 0; a < 12 && links < 24; a++) {
            for (int b = a + 1; b < 12 && links < 24; b++) {
                links++;
                Check.due("link " + links, 0, x.link(a, b, links));
            }
        }
        Check.due("24 links", 24, x.linkCount());
        Check.due("25th link", FULL, x.link(10, 11, 1));
        Check.due("25th link out of range", RANGE, x.link(10, 11, 100001));
        Check.due("25th link to nowhere", GONE, x.link(10, 12, 1));
        Check.due("no 25th link to remove", 0, x.link(10, 11, 0));
        Check.due("change of a link", 3, x.link(0, 3, 99));
        Check.due("24 links still", 24, x.linkCount());
        Check.due("last link", 24, x.conductance(2, 5));
        Check.due("removal", 99, x.link(3, 0, 0));
        Check.due("last link still", 24, x.conductance(5, 2));
        Check.due("room again", 0, x.link(10, 11, 1));
        Check.due("full again", FULL, x.link(0, 3, 1));
    }

    /** Promise 8. */
    static void conductance() {
        LouvreCraft x = new LouvreCraft();
        Check.due("no node", GONE, x.conductance(0, 0));
        x.addNode(100, 0, 0, 0, 0);
        x.addNode(100, 0, 0, 0, 0);
        x.link(1, 0, 77);
        Check.due("itself", 0, x.conductance(0, 0));
        Check.due("from 0", 77, x.conductance(0, 1));
        Check.due("from 1", 77, x.conductance(1, 0));
        Check.due("to 2", GONE, x.conductance(0, 2));
        Check.due("from 2", GONE, x.conductance(2, 0));
        Check.due("from -1", GONE, x.conductance(-1, 0));
        x.addNode(100, 0, 0, 0, 0);
        Check.due("without a link", 0, x.conductance(0, 2));
    }

    /** Promise 9. */
    static void linkCount() {
        LouvreCraft x = new LouvreCraft();
        for (int node = 0; node < 4; node++) {
            x.addNode(100, 0, 0, 0, 0);
        }
        x.link(0, 1, 1);
        Check.due("one", 1, x.linkCount());
        x.link(2, 1, 1);
        Check.due("two", 2, x.linkCount());
        x.link(1, 2, 5);
        Check.due("two still", 2, x.linkCount());
        x.link(1, 1, 5);
        x.link(1, 4, 5);
        Check.due("two after errors", 2, x.linkCount());
        x.link(1, 2, 0);
        Check.due("one left", 1, x.linkCount());
        x.link(0, 1, 0);
        Check.due("none left", 0, x.linkCount());
    }
}
