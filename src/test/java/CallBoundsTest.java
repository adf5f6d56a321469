/**
 * The boundary cases of promises 1 to 49, in their order: the ends of each range, what is next to them, what is full,
 * what is empty, and that a refused call leaves no trace.
 */
public final class CallBoundsTest {
    private static final int NONE = LouvreCraft.NONE;
    private static final int GONE = LouvreCraft.NO_SUCH_PART;
    private static final int RANGE = LouvreCraft.OUT_OF_RANGE;
    private static final int FULL = LouvreCraft.FULL;

    public static void main(String[] args) {
        newObjectIsEmpty();
        objectsAreApart();
        missingPartBeforeRange();
        missingPartBeforeFull();
        rangeBeforeFull();
        addNodeRanges();
        addNodeAtItsEnds();
        thirteenthNode();
        nodeCountStays();
        setLimitsRanges();
        lowIsAtMostHigh();
        recordedViolationsStay();
        setTemperatureRanges();
        recordsStayWithSetTemperature();
        setLoadRanges();
        linkRanges();
        linkOfANodeToItself();
        linkOfZero();
        linkTwentyFive();
        conductanceRanges();
        conductanceOfNoLink();
        linkCountAtItsEnds();
        addLouvreRanges();
        closedIsLessThanOpen();
        seventhLouvre();
        addHeaterRanges();
        lowerIsAtMostHigher();
        ninthHeater();
        numbersOfLouvres();
        numbersOfHeaters();
        setModeRanges();
        modeWorksInTheNextStep();
        setOrbitRanges();
        shadeWithinThePeriod();
        timeStaysWithSetOrbit();
        setPowerRanges();
        chargeWithinTheCapacity();
        setStepLengthRange();
        runRange();
        runCountsSteps();
        numbersOfNodes();
        resetWithoutViolators();
        addedNodeBeginsItsRecords();
        violatorRange();
        energyRange();
        askingChangesNothing();
        planningRanges();
        planningChangesNothing();
        violationInTheLastStep();
        violationBeforeTheNextStep();
        anyNodeOfNone();
        extremeOfTheNextStepAlone();
        leastPowerAtItsEnds();
        leastPowerLooksAtAllNodes();
        leastAreaAtItsEnds();
        leastAreaLooksAtTheSteps();
        leastAreaLooksAtAllNodes();
        settlingOrbitRanges();
        mostTimesStepsOfAnOrbit();
        toleranceIsAllowed();
        stepsOfAnOrbitAreRoundedUp();
        Check.finish();
    }

    private static LouvreCraft withNodes(int count) {
        LouvreCraft x = new LouvreCraft();
        for (int node = 0; node < count; node++) {
            x.addNode(1000, 0, 0, 0, 0);
        }
        return x;
    }

    /** Promise 1: time 0, no nodes, louvres, heaters, rules and records, an empty text, no saved states. */
    static void newObjectIsEmpty() {
        LouvreCraft x = new LouvreCraft();
        long[] all = Twins.answers(x);
        for (int i = 0; i < 9; i++) {
            Check.due("count " + i, 0, all[i]);
        }
        Check.due("violator(0)", RANGE, x.violator(0));
        Check.due("ruleHolds(0)", RANGE, x.ruleHolds(0));
        for (int which = 0; which < 3; which++) {
            Check.due("energy", 0, x.energy(which));
        }
        Check.due("a text of one byte to keep", RANGE, x.truncateText(1));
        Check.due("restore(0)", false, x.restore(0));
        Check.due("restore(1)", false, x.restore(1));
        Check.due("still time 0", 0, x.time());
    }

    static void objectsAreApart() {
        LouvreCraft x = Twins.built();
        LouvreCraft y = new LouvreCraft();
        Twins.alike("beside a built one", y, new LouvreCraft());
        Check.due("nothing is saved here", false, y.restore(0));
        y.addNode(1, 1, 1, 1, 1);
        y.run(1000);
        Twins.alike("beside a new one", x, Twins.built());
    }

    /** Promise 1: of NO_SUCH_PART and OUT_OF_RANGE the first one is returned. */
    static void missingPartBeforeRange() {
        Twins.refused("setLimits", GONE, x -> x.setLimits(3, 1, 0));
        Twins.refused("setTemperature", GONE, x -> x.setTemperature(3, 200001));
        Twins.refused("setLoad", GONE, x -> x.setLoad(3, -1));
        Twins.refused("link, node a", GONE, x -> x.link(3, 0, -1));
        Twins.refused("link, node b", GONE, x -> x.link(0, 3, 100001));
        Twins.refused("link to itself", GONE, x -> x.link(3, 3, 1));
        Twins.refused("addLouvre, area", GONE, x -> x.addLouvre(3, -1, 0, 1, 1));
        Twins.refused("addLouvre, open", GONE, x -> x.addLouvre(3, 0, 1, 1, 1));
        Twins.refused("addLouvre, rate", GONE, x -> x.addLouvre(3, 0, 0, 1, 0));
        Twins.refused("addHeater, power", GONE, x -> x.addHeater(-1, -1, 0, 0, 0));
        Twins.refused("addHeater, higher", GONE, x -> x.addHeater(3, 0, 0, 200001, 0));
        Twins.refused("addHeater, priority", GONE, x -> x.addHeater(3, 0, 0, 0, 10));
        Twins.refused("setMode", GONE, x -> x.setMode(3, 3));
        Twins.refused("stepsToViolation", GONE, x -> x.stepsToViolation(3, 0));
        Twins.refused("extremeAhead", GONE, x -> x.extremeAhead(3, 2001, true));
        Twins.refused("leastHeaterPower", GONE, x -> x.leastHeaterPower(3, 201));
        Twins.refused("leastLouvreArea", GONE, x -> x.leastLouvreArea(2, 0));
    }

    /** Promise 1: of NO_SUCH_PART and FULL the first one is returned, also with OUT_OF_RANGE besides. */
    static void missingPartBeforeFull() {
        Twins.refused("link", GONE, Twins::full, x -> x.link(11, 12, 1));
        Twins.refused("addLouvre", GONE, Twins::full, x -> x.addLouvre(12, 0, 0, 1, 1));
        Twins.refused("addHeater", GONE, Twins::full, x -> x.addHeater(12, 0, 0, 0, 0));
        Twins.refused("link of -1", GONE, Twins::full, x -> x.link(-1, 11, -1));
        Twins.refused("addLouvre of area -1", GONE, Twins::full, x -> x.addLouvre(-1, -1, 0, 1, 1));
        Twins.refused("addHeater of power -1", GONE, Twins::full, x -> x.addHeater(-1, -1, 0, 0, 0));
    }

    /** Promise 1: of OUT_OF_RANGE and FULL the first one is returned. */
    static void rangeBeforeFull() {
        Twins.refused("addNode, capacity", RANGE, Twins::full, x -> x.addNode(0, 0, 0, 0, 0));
        Twins.refused("addNode, load", RANGE, Twins::full, x -> x.addNode(1, 0, 0, 0, 1000001));
        Twins.refused("link", RANGE, Twins::full, x -> x.link(0, 2, 100001));
        Twins.refused("link to itself", RANGE, Twins::full, x -> x.link(5, 5, 1));
        Twins.refused("addLouvre", RANGE, Twins::full, x -> x.addLouvre(0, 0, 0, 0, 1));
        Twins.refused("addHeater", RANGE, Twins::full, x -> x.addHeater(0, 0, 1, 0, 0));
    }

    /** Promise 2: the range of each parameter. */
    static void addNodeRanges() {
        Twins.range("capacity", 1, 100000, RANGE, (x, value) -> x.addNode(value, 0, 0, 0, 0));
        Twins.range("temperature", -200000, 200000, RANGE, (x, value) -> x.addNode(1, value, 0, 0, 0));
        Twins.range("emitting", 0, 10000, RANGE, (x, value) -> x.addNode(1, 0, value, 0, 0));
        Twins.range("absorbing", 0, 10000, RANGE, (x, value) -> x.addNode(1, 0, 0, value, 0));
        Twins.range("load", 0, 1000000, RANGE, (x, value) -> x.addNode(1, 0, 0, 0, value));
    }

    /** Promise 2: the ends of the ranges are taken as they are. */
    static void addNodeAtItsEnds() {
        LouvreCraft x = new LouvreCraft();
        Check.due("capacity 1", 0, x.addNode(1, 0, 0, 0, 15));
        Check.due("capacity 100000", 1, x.addNode(100000, 0, 0, 0, 1000000));
        Check.due("the coldest", 2, x.addNode(7, -200000, 0, 0, 0));
        Check.due("the hottest", 3, x.addNode(7, 200000, 10000, 10000, 0));
        Check.due("temperature", -200000, x.temperature(2));
        Check.due("temperature", 200000, x.temperature(3));
        Check.due("emitting 0", 0, x.emittedHeat(2));
        Check.due("absorbing 0", 0, x.absorbedHeat(2));
        Check.due("emitting 10000", 10000L * 473 * 473 * 473 * 473 * 567 / 100000000000L, x.emittedHeat(3));
        Check.due("absorbing 10000", 1361000, x.absorbedHeat(3));
        Check.due("load 1000000", 1000000, x.load(1));
        x.run(1);
        Check.due("150 / 1", 150, x.temperature(0));
        Check.due("10000000 / 100000", 100, x.temperature(1));
    }

    /** Promise 2: FULL, with 12 nodes and not before. */
    static void thirteenthNode() {
        LouvreCraft x = withNodes(11);
        Check.due("12th node", 11, x.addNode(1, 0, 0, 0, 0));
        Check.due("13th node", FULL, x.addNode(1, 0, 0, 0, 0));
        Twins.refused("13th node", FULL, Twins::full, y -> y.addNode(100000, 0, 0, 0, 1000000));
    }

    /** Promise 3. */
    static void nodeCountStays() {
        LouvreCraft x = new LouvreCraft();
        Check.due("nodeCount", 0, x.nodeCount());
        x.addNode(0, 0, 0, 0, 0);
        Check.due("nodeCount after a refused node", 0, x.nodeCount());
        Check.due("nodeCount of a full craft", 12, Twins.full().nodeCount());
    }

    /** Promise 4: the range of each parameter. */
    static void setLimitsRanges() {
        Twins.range("node", 0, 2, GONE, (x, value) -> x.setLimits(value, 0, 0));
        Twins.range("low", -200000, 500, RANGE, (x, value) -> x.setLimits(0, value, 500));
        Twins.range("high", -300, 200000, RANGE, (x, value) -> x.setLimits(0, -300, value));
        Twins.refused("both too low", RANGE, x -> x.setLimits(0, -200001, -200001));
        Twins.refused("both too high", RANGE, x -> x.setLimits(0, 200001, 200001));
        Twins.refused("low too low, high too high", RANGE, x -> x.setLimits(0, -200001, 200001));
    }

    /** Promise 4: low is at most high, and may be equal to it, at both ends too. */
    static void lowIsAtMostHigh() {
        LouvreCraft x = withNodes(1);
        Check.due("equal", 0, x.setLimits(0, 5, 5));
        Check.due("margin below", -5, x.margin(0));
        Check.due("equal at the low end", 0, x.setLimits(0, -200000, -200000));
        Check.due("margin above", -200000, x.margin(0));
        Check.due("equal at the high end", 0, x.setLimits(0, 200000, 200000));
        Check.due("margin below", -200000, x.margin(0));
        Check.due("low above high", RANGE, x.setLimits(0, 6, 5));
        Check.due("as it was", -200000, x.margin(0));
    }

    /** Promise 4: violations that are recorded stay. */
    static void recordedViolationsStay() {
        LouvreCraft x = withNodes(2);
        x.setLimits(1, 1, 2);
        x.run(3);
        Check.due("wide limits", 0, x.setLimits(1, -200000, 200000));
        Check.due("violations", 3, x.violations(1));
        Check.due("firstViolation", 10, x.firstViolation(1));
        Check.due("violator", 1, x.violator(0));
        Check.due("no more of them", 0, x.run(2));
        Check.due("violations", 3, x.violations(1));
        x.setLimits(0, 1, 2);
        Check.due("not before a step", 0, x.violations(0));
    }

    /** Promise 5: the range of each parameter. */
    static void setTemperatureRanges() {
        Twins.range("node", 0, 2, GONE, (x, value) -> x.setTemperature(value, 0));
        Twins.range("temperature", -200000, 200000, RANGE, (x, value) -> x.setTemperature(1, value));
    }

    /** Promise 5: the lowest and highest temperature of the records do not change. */
    static void recordsStayWithSetTemperature() {
        LouvreCraft x = withNodes(1);
        Check.due("previous", 0, x.setTemperature(0, 200000));
        Check.due("highest", 0, x.highest(0));
        Check.due("previous", 200000, x.setTemperature(0, -200000));
        Check.due("lowest", 0, x.lowest(0));
        Check.due("previous", -200000, x.setTemperature(0, 3));
        x.run(1);
        Check.due("highest after a step", 3, x.highest(0));
        Check.due("lowest after a step", 0, x.lowest(0));
    }

    /** Promise 6: the range of each parameter. */
    static void setLoadRanges() {
        Twins.range("node", 0, 2, GONE, (x, value) -> x.setLoad(value, 0));
        Twins.range("load", 0, 1000000, RANGE, (x, value) -> x.setLoad(0, value));
        LouvreCraft x = withNodes(1);
        Check.due("previous", 0, x.setLoad(0, 1000000));
        Check.due("previous", 1000000, x.setLoad(0, 0));
        Check.due("load", 0, x.load(0));
    }

    /** Promise 7: the range of each parameter. */
    static void linkRanges() {
        Twins.range("a", 0, 2, GONE, (x, value) -> x.link(value, 1, 5));
        Twins.range("b", 0, 2, GONE, (x, value) -> x.link(1, value, 5));
        Twins.range("conductance of a new link", 0, 100000, RANGE, (x, value) -> x.link(1, 2, value));
        Twins.range("conductance of an old link", 0, 100000, RANGE, (x, value) -> x.link(1, 0, value));
        LouvreCraft x = withNodes(2);
        Check.due("least", 0, x.link(0, 1, 1));
        Check.due("greatest", 1, x.link(1, 0, 100000));
        Check.due("conductance", 100000, x.conductance(0, 1));
    }

    /** Promise 7: OUT_OF_RANGE also if a equals b. */
    static void linkOfANodeToItself() {
        Twins.refused("0 to 0", RANGE, x -> x.link(0, 0, 1));
        Twins.refused("2 to 2", RANGE, x -> x.link(2, 2, 100000));
        Twins.refused("nothing to remove from 1 to 1", RANGE, x -> x.link(1, 1, 0));
    }

    /** Promise 7: 0 removes the link, and 0 is returned if there was none. */
    static void linkOfZero() {
        Twins.refused("no link to remove", 0, x -> x.link(1, 2, 0));
        LouvreCraft x = Twins.built();
        Check.due("removed", 300, x.link(1, 0, 0));
        Check.due("none left to remove", 0, x.link(0, 1, 0));
        Check.due("linkCount", 1, x.linkCount());
        Check.due("conductance", 0, x.conductance(0, 1));
        Check.due("the other link", 20, x.conductance(2, 0));
        Check.due("no heat any more", 0, x.conductedHeat(1));
        Check.due("anew", 0, x.link(0, 1, 7));
        Check.due("linkCount", 2, x.linkCount());
    }

    /** Promise 7: FULL if it would be a 25th link, and only then. */
    static void linkTwentyFive() {
        LouvreCraft x = withNodes(12);
        for (int link = 0; link < 24; link++) {
            Check.due("link " + (link + 1), 0, x.link(link % 12, (link + 1 + link / 12) % 12, 5));
        }
        Check.due("25th link", FULL, x.link(0, 3, 5));
        Check.due("change at 24 links", 5, x.link(1, 0, 9));
        Check.due("removal at 24 links", 9, x.link(0, 1, 0));
        Check.due("24th link again", 0, x.link(0, 3, 5));
        Check.due("25th link again", FULL, x.link(1, 0, 5));
        Twins.refused("25th link", FULL, Twins::full, y -> y.link(0, 2, 1));
        Twins.refused("a 25th link of 0 is none", 0, Twins::full, y -> y.link(0, 2, 0));
    }

    /** Promise 8: the range of each parameter. */
    static void conductanceRanges() {
        Twins.range("a", 0, 2, GONE, (x, value) -> x.conductance(value, 0));
        Twins.range("b", 0, 2, GONE, (x, value) -> x.conductance(1, value));
        Twins.refused("neither", GONE, x -> x.conductance(3, 3));
    }

    /** Promise 8: 0 if there is none, also if a equals b. */
    static void conductanceOfNoLink() {
        LouvreCraft x = Twins.built();
        Check.due("none", 0, x.conductance(1, 2));
        Check.due("none", 0, x.conductance(2, 1));
        for (int node = 0; node < 3; node++) {
            Check.due("itself", 0, x.conductance(node, node));
        }
    }

    /** Promise 9. */
    static void linkCountAtItsEnds() {
        LouvreCraft x = withNodes(2);
        Check.due("none", 0, x.linkCount());
        x.link(0, 1, 1);
        x.link(1, 0, 2);
        Check.due("one link of two nodes", 1, x.linkCount());
        x.link(1, 0, 0);
        Check.due("none", 0, x.linkCount());
        Check.due("of a full craft", 24, Twins.full().linkCount());
    }

    /** Promise 10: the range of each parameter. */
    static void addLouvreRanges() {
        Twins.range("node", 0, 2, GONE, (x, value) -> x.addLouvre(value, 0, 0, 1, 1));
        Twins.range("area", 0, 10000, RANGE, (x, value) -> x.addLouvre(0, value, 0, 1, 1));
        Twins.range("closed", -200000, 199999, RANGE, (x, value) -> x.addLouvre(0, 0, value, 200000, 1));
        Twins.range("open", -2999, 200000, RANGE, (x, value) -> x.addLouvre(0, 0, -3000, value, 1));
        Twins.range("rate", 1, 1000, RANGE, (x, value) -> x.addLouvre(0, 0, 0, 1, value));
    }

    /** Promise 10: open is closed + 1 at least, at both ends too. */
    static void closedIsLessThanOpen() {
        LouvreCraft x = withNodes(1);
        Check.due("at the low end", 0, x.addLouvre(0, 10000, -200000, -199999, 1000));
        Check.due("at the high end", 1, x.addLouvre(0, 10000, 199999, 200000, 1000));
        Check.due("equal at the low end", RANGE, x.addLouvre(0, 0, -200000, -200000, 1));
        Check.due("equal at the high end", RANGE, x.addLouvre(0, 0, 200000, 200000, 1));
        Check.due("closed at the greatest int", RANGE, x.addLouvre(0, 0, Integer.MAX_VALUE, Integer.MIN_VALUE, 1));
        x.setTemperature(0, -200000);
        Check.due("closed at -200000", 0, x.target(0));
        x.setTemperature(0, -199999);
        Check.due("open at -199999", 1000, x.target(0));
        x.setTemperature(0, 199999);
        Check.due("closed at 199999", 0, x.target(1));
        x.setTemperature(0, 200000);
        Check.due("open at 200000", 1000, x.target(1));
        x.run(1);
        Check.due("a rate of 1000 opens in one step", 1000, x.opening(1));
    }

    /** Promise 10: FULL, with 6 louvres and not before. */
    static void seventhLouvre() {
        LouvreCraft x = withNodes(1);
        for (int louvre = 0; louvre < 6; louvre++) {
            Check.due("louvre", louvre, x.addLouvre(0, 0, 0, 1, 1));
        }
        Check.due("7th louvre", FULL, x.addLouvre(0, 0, 0, 1, 1));
        Twins.refused("7th louvre", FULL, Twins::full, y -> y.addLouvre(3, 10000, -5, 5, 1000));
    }

    /** Promise 11: the range of each parameter. */
    static void addHeaterRanges() {
        Twins.range("node", 0, 2, GONE, (x, value) -> x.addHeater(value, 0, 0, 0, 0));
        Twins.range("power", 0, 100000, RANGE, (x, value) -> x.addHeater(0, value, 0, 0, 0));
        Twins.range("lower", -200000, 400, RANGE, (x, value) -> x.addHeater(0, 0, value, 400, 0));
        Twins.range("higher", -600, 200000, RANGE, (x, value) -> x.addHeater(0, 0, -600, value, 0));
        Twins.range("priority", 0, 9, RANGE, (x, value) -> x.addHeater(0, 0, 0, 0, value));
        Twins.refused("both too low", RANGE, x -> x.addHeater(0, 0, -200001, -200001, 0));
        Twins.refused("both too high", RANGE, x -> x.addHeater(0, 0, 200001, 200001, 0));
    }

    /** Promise 11: lower may be equal to higher, at both ends too. */
    static void lowerIsAtMostHigher() {
        LouvreCraft x = withNodes(1);
        Check.due("at the low end", 0, x.addHeater(0, 0, -200000, -200000, 0));
        Check.due("at the high end", 1, x.addHeater(0, 0, 200000, 200000, 0));
        Check.due("between", 2, x.addHeater(0, 0, 0, 0, 0));
        Check.due("lower above higher", RANGE, x.addHeater(0, 0, 1, 0, 0));
        x.run(1);
        Check.due("never below -200000", 0, x.heaterState(0));
        Check.due("below 200000", 1, x.heaterState(1));
        Check.due("neither below nor above 0", 0, x.heaterState(2));
        x.setTemperature(0, 200000);
        x.run(1);
        Check.due("never above 200000", 1, x.heaterState(1));
    }

    /** Promise 11: FULL, with 8 heaters and not before. */
    static void ninthHeater() {
        LouvreCraft x = withNodes(1);
        for (int heater = 0; heater < 8; heater++) {
            Check.due("heater", heater, x.addHeater(0, 0, 0, 0, 0));
        }
        Check.due("9th heater", FULL, x.addHeater(0, 0, 0, 0, 0));
        Twins.refused("9th heater", FULL, Twins::full, y -> y.addHeater(3, 1, 200000, 200000, 9));
    }

    /** Promises 12 to 15. */
    static void numbersOfLouvres() {
        Twins.range("opening", 0, 1, GONE, (x, value) -> x.opening(value));
        Twins.range("target", 0, 1, GONE, (x, value) -> x.target(value));
        Twins.range("isHeld", 0, 1, GONE, (x, value) -> x.isHeld(value));
        LouvreCraft x = withNodes(1);
        Check.due("louvreCount", 0, x.louvreCount());
        x.addLouvre(0, -1, 0, 1, 1);
        Check.due("louvreCount after a refused one", 0, x.louvreCount());
        Check.due("opening", GONE, x.opening(0));
        Check.due("target", GONE, x.target(0));
        Check.due("isHeld", GONE, x.isHeld(0));
        LouvreCraft full = Twins.full();
        Check.due("louvreCount of a full craft", 6, full.louvreCount());
        Check.due("the last louvre", 0, full.isHeld(5));
        Check.due("behind the last louvre", GONE, full.isHeld(6));
    }

    /** Promises 16 to 18. */
    static void numbersOfHeaters() {
        Twins.range("heaterState", 0, 2, GONE, (x, value) -> x.heaterState(value));
        Twins.range("heaterMode", 0, 2, GONE, (x, value) -> x.heaterMode(value));
        LouvreCraft x = withNodes(1);
        Check.due("heaterCount", 0, x.heaterCount());
        x.addHeater(0, -1, 0, 0, 0);
        Check.due("heaterCount after a refused one", 0, x.heaterCount());
        Check.due("heaterState", GONE, x.heaterState(0));
        Check.due("heaterMode", GONE, x.heaterMode(0));
        LouvreCraft full = Twins.full();
        Check.due("heaterCount of a full craft", 8, full.heaterCount());
        Check.due("the last heater", 0, full.heaterMode(7));
        Check.due("behind the last heater", GONE, full.heaterMode(8));
    }

    /** Promise 19: the range of each parameter. */
    static void setModeRanges() {
        Twins.range("heater", 0, 2, GONE, (x, value) -> x.setMode(value, 1));
        Twins.range("mode", 0, 2, RANGE, (x, value) -> x.setMode(1, value));
    }

    /** Promise 19: wish and state change in the next step, not at once. */
    static void modeWorksInTheNextStep() {
        LouvreCraft x = withNodes(1);
        x.addHeater(0, 0, -1000, 1000, 0);
        Check.due("previous", 0, x.setMode(0, 1));
        Check.due("state", 0, x.heaterState(0));
        Check.due("previous", 1, x.setMode(0, 0));
        x.run(1);
        Check.due("the mode of no step gives no wish", 0, x.heaterState(0));
        x.setMode(0, 1);
        x.run(1);
        Check.due("previous", 1, x.setMode(0, 2));
        Check.due("still on", 1, x.heaterState(0));
        Check.due("previous", 2, x.setMode(0, 0));
        x.run(1);
        Check.due("the mode of no step takes no wish", 1, x.heaterState(0));
    }

    /** Promise 20: the range of each parameter. */
    static void setOrbitRanges() {
        Twins.range("period", 1, 100000, RANGE, (x, value) -> x.setOrbit(value, 0, 0, 0, 0, 0));
        Twins.range("shadeFrom", 0, 50, RANGE, (x, value) -> x.setOrbit(50, value, 50, 0, 0, 0));
        Twins.range("shadeTo", 20, 50, RANGE, (x, value) -> x.setOrbit(50, 20, value, 0, 0, 0));
        Twins.range("flux", 0, 10000, RANGE, (x, value) -> x.setOrbit(50, 0, 0, value, 0, 0));
        Twins.range("albedo", 0, 100, RANGE, (x, value) -> x.setOrbit(50, 0, 0, 0, value, 0));
        Twins.range("infrared", 0, 10000, RANGE, (x, value) -> x.setOrbit(50, 0, 0, 0, 0, value));
    }

    /** Promise 20: shadeFrom up to the period, shadeTo from shadeFrom up to the period. */
    static void shadeWithinThePeriod() {
        LouvreCraft x = new LouvreCraft();
        Check.due("an orbit of one second in the shade", 0, x.setOrbit(1, 0, 1, 0, 0, 0));
        Check.due("sun", false, x.isSunlit());
        Check.due("an orbit of one second in the sun", 0, x.setOrbit(1, 1, 1, 0, 0, 0));
        Check.due("sun", true, x.isSunlit());
        Check.due("no shade at its beginning", 0, x.setOrbit(9, 0, 0, 0, 0, 0));
        Check.due("sun", true, x.isSunlit());
        Check.due("shade up to its end", 0, x.setOrbit(9, 0, 9, 0, 0, 0));
        Check.due("sun", false, x.isSunlit());
        Check.due("shade behind its end", RANGE, x.setOrbit(9, 10, 10, 0, 0, 0));
        Check.due("the end before the beginning", RANGE, x.setOrbit(9, 9, 8, 0, 0, 0));
        Check.due("as it was", false, x.isSunlit());
        Check.due("the longest", 0, x.setOrbit(100000, 100000, 100000, 0, 0, 0));
        Check.due("sun", true, x.isSunlit());
    }

    /** Promise 20: the time stays, and the phase is that of the new period. */
    static void timeStaysWithSetOrbit() {
        LouvreCraft x = new LouvreCraft();
        x.run(7);
        x.setOrbit(70, 0, 0, 0, 0, 0);
        Check.due("time", 70, x.time());
        Check.due("phase", 0, x.phase());
        x.setOrbit(71, 0, 0, 0, 0, 0);
        Check.due("phase", 70, x.phase());
        x.setOrbit(69, 0, 0, 0, 0, 0);
        Check.due("phase", 1, x.phase());
        x.setOrbit(1, 0, 0, 0, 0, 0);
        Check.due("phase", 0, x.phase());
        Check.due("time", 70, x.time());
    }

    /** Promise 21: the range of each parameter. */
    static void setPowerRanges() {
        Twins.range("array", 0, 1000000, RANGE, (x, value) -> x.setPower(value, 0, 0, 0));
        Twins.range("base", 0, 1000000, RANGE, (x, value) -> x.setPower(0, value, 0, 0));
        Twins.range("capacity", 0, 1000000000, RANGE, (x, value) -> x.setPower(0, 0, value, 0));
        Twins.range("charge", 0, 700, RANGE, (x, value) -> x.setPower(0, 0, 700, value));
    }

    /** Promise 21: the charge from 0 up to the capacity. */
    static void chargeWithinTheCapacity() {
        LouvreCraft x = new LouvreCraft();
        Check.due("full", 0, x.setPower(0, 0, 1000000000, 1000000000));
        Check.due("charge", 1000000000, x.charge());
        Check.due("more than full", RANGE, x.setPower(0, 0, 1000000000, 1000000001));
        Check.due("more than nothing of no capacity", RANGE, x.setPower(0, 0, 0, 1));
        Check.due("as it was", 1000000000, x.charge());
        Check.due("nothing of no capacity", 0, x.setPower(0, 0, 0, 0));
        Check.due("charge", 0, x.charge());
    }

    /** Promise 22. */
    static void setStepLengthRange() {
        Twins.range("seconds", 1, 60, RANGE, (x, value) -> x.setStepLength(value));
        LouvreCraft x = new LouvreCraft();
        Check.due("first length", 10, x.setStepLength(60));
        x.run(1);
        Check.due("time", 60, x.time());
        Check.due("previous", 60, x.setStepLength(1));
        x.run(1);
        Check.due("time", 61, x.time());
    }

    /** Promise 23: the range of its parameter; OrbitTest goes to the greatest time. */
    static void runRange() {
        Twins.range("count", 1, 1000, RANGE, (x, value) -> x.run(value));
        LouvreCraft x = new LouvreCraft();
        x.run(1);
        Check.due("one step", 10, x.time());
        x.run(1000);
        Check.due("1000 steps more", 10010, x.time());
    }

    /** Promise 23: steps with at least one violation, each counted once. */
    static void runCountsSteps() {
        LouvreCraft x = withNodes(2);
        Check.due("none", 0, x.run(4));
        x.setLimits(0, 1, 1);
        Check.due("of one node in each step", 4, x.run(4));
        x.setLimits(1, 1, 1);
        Check.due("of both nodes in each step", 1000, x.run(1000));
        x.setLimits(0, 0, 0);
        x.setLimits(1, -3, 0);
        x.setLoad(1, 100);
        Check.due("from the first step on", 4, x.run(4));
        x.setTemperature(1, -5);
        Check.due("in the first step and the last two of seven", 1 + 2, x.run(7));
    }

    /** Promises 29 to 35 and 37 to 40: nodes that are there, and those that are not. */
    static void numbersOfNodes() {
        Twins.range("temperature", 0, 2, GONE, (x, value) -> x.temperature(value));
        Twins.range("load", 0, 2, GONE, (x, value) -> x.load(value));
        Twins.range("absorbedHeat", 0, 2, GONE, (x, value) -> x.absorbedHeat(value));
        Twins.range("emittedHeat", 0, 2, GONE, (x, value) -> x.emittedHeat(value));
        Twins.range("conductedHeat", 0, 2, GONE, (x, value) -> x.conductedHeat(value));
        Twins.range("netHeat", 0, 2, GONE, (x, value) -> x.netHeat(value));
        Twins.range("margin", 0, 2, GONE, (x, value) -> x.margin(value));
        Twins.range("lowest", 0, 2, GONE, (x, value) -> x.lowest(value));
        Twins.range("highest", 0, 2, GONE, (x, value) -> x.highest(value));
        Twins.range("violations", 0, 2, GONE, (x, value) -> x.violations(value));
        Twins.range("firstViolation", 0, 2, GONE, (x, value) -> x.firstViolation(value));
        LouvreCraft full = Twins.full();
        Check.due("the last node", false, full.netHeat(11) == GONE);
        Check.due("behind the last node", GONE, full.netHeat(12));
        LouvreCraft empty = new LouvreCraft();
        Check.due("of no nodes", GONE, empty.temperature(0));
        Check.due("of no nodes", GONE, empty.netHeat(0));
    }

    /** Promise 36: 0 if there is no violator, and all 12 if all are. */
    static void resetWithoutViolators() {
        LouvreCraft x = new LouvreCraft();
        Check.due("without nodes", 0, x.resetRecords());
        for (int node = 0; node < 12; node++) {
            x.addNode(1000, 7, 0, 0, 0);
        }
        x.run(2);
        Check.due("without violators", 0, x.resetRecords());
        for (int node = 0; node < 12; node++) {
            x.setLimits(node, 8, 9);
        }
        Check.due("outside, but no step yet", 0, x.resetRecords());
        x.run(2);
        Check.due("all", 12, x.resetRecords());
        Check.due("none is left", 0, x.violatorCount());
        Check.due("violator(0)", RANGE, x.violator(0));
        Check.due("none again", 0, x.resetRecords());
    }

    /** Promise 36: a node that is added begins its own records, and those of the others go on. */
    static void addedNodeBeginsItsRecords() {
        LouvreCraft x = withNodes(1);
        x.setLimits(0, 1, 2);
        x.run(2);
        x.addNode(1000, 55, 0, 0, 0);
        Check.due("lowest", 55, x.lowest(1));
        Check.due("highest", 55, x.highest(1));
        Check.due("violations", 0, x.violations(1));
        Check.due("firstViolation", NONE, x.firstViolation(1));
        Check.due("violations of the other", 2, x.violations(0));
        Check.due("violatorCount", 1, x.violatorCount());
        Check.due("violator(1)", RANGE, x.violator(1));
    }

    /** Promise 42: from 0 to the last violator. */
    static void violatorRange() {
        LouvreCraft twins = Twins.built();
        int violators = twins.violatorCount();
        Check.due("there are two", 2, violators);
        Twins.range("index", 0, 1, RANGE, (x, value) -> x.violator(value));
        LouvreCraft x = withNodes(12);
        Check.due("of none", RANGE, x.violator(0));
        for (int node = 0; node < 12; node++) {
            x.setLimits(node, 1, 1);
        }
        x.run(1);
        Check.due("the last of twelve", 11, x.violator(11));
        Check.due("behind it", RANGE, x.violator(12));
    }

    /** Promise 44. */
    static void energyRange() {
        Twins.range("which", 0, 2, RANGE, (x, value) -> x.energy(value));
    }

    /** Asking is no change, however the question ends. */
    static void askingChangesNothing() {
        Twins.Call all = x -> {
            Twins.answers(x);
            x.target(0);
            x.conductance(0, 1);
            return 0;
        };
        Twins.refused("asking", 0, all);
        Twins.refused("asking a full craft", 0, Twins::full, all);
    }

    /** Promises 45 to 48: the range of each parameter. */
    static void planningRanges() {
        Twins.range("stepsToViolation, node", -1, 2, GONE, (x, value) -> x.stepsToViolation(value, 10));
        Twins.range("stepsToViolation, steps", 1, 2000, RANGE, (x, value) -> x.stepsToViolation(0, value));
        Twins.range("stepsToViolation, steps of any", 1, 2000, RANGE, (x, value) -> x.stepsToViolation(NONE, value));
        Twins.range("extremeAhead, node", 0, 2, GONE, (x, value) -> x.extremeAhead(value, 10, false));
        Twins.range("extremeAhead, steps", 1, 2000, RANGE, (x, value) -> x.extremeAhead(0, value, true));
        Twins.range("leastHeaterPower, heater", 0, 2, GONE, (x, value) -> x.leastHeaterPower(value, 10));
        Twins.range("leastHeaterPower, steps", 1, 200, RANGE, (x, value) -> x.leastHeaterPower(0, value));
        Twins.range("leastLouvreArea, louvre", 0, 1, GONE, (x, value) -> x.leastLouvreArea(value, 10));
        Twins.range("leastLouvreArea, steps", 1, 200, RANGE, (x, value) -> x.leastLouvreArea(0, value));
    }

    /** Promises 45 to 49: none of these calls changes the model. */
    static void planningChangesNothing() {
        LouvreCraft y = Twins.built();
        Twins.refused("stepsToViolation", y.stepsToViolation(2, 2000), x -> x.stepsToViolation(2, 2000));
        Twins.refused("stepsToViolation", y.stepsToViolation(NONE, 2000), x -> x.stepsToViolation(NONE, 2000));
        Twins.refused("extremeAhead", y.extremeAhead(0, 2000, true), x -> x.extremeAhead(0, 2000, true));
        Twins.refused("leastHeaterPower", y.leastHeaterPower(1, 200), x -> x.leastHeaterPower(1, 200));
        Twins.refused("leastLouvreArea", y.leastLouvreArea(0, 200), x -> x.leastLouvreArea(0, 200));
        Twins.refused("settlingOrbit", y.settlingOrbit(100, 20), x -> x.settlingOrbit(100, 20));
        Twins.refused("settlingOrbit of a full craft", 1, Twins::full, x -> x.settlingOrbit(100000, 6));
    }

    /** A node that gains 10 in each step. */
    private static LouvreCraft gaining() {
        LouvreCraft x = new LouvreCraft();
        x.addNode(1000, 0, 0, 0, 1000);
        return x;
    }

    /** Promise 45: 1 for the next step, the last of the given steps counts, and NONE behind it. */
    static void violationInTheLastStep() {
        LouvreCraft x = gaining();
        x.setLimits(0, -10, 9);
        Check.due("1 of 1", 1, x.stepsToViolation(0, 1));
        x.setLimits(0, -10, 10);
        Check.due("2 is not in 1", NONE, x.stepsToViolation(0, 1));
        Check.due("2 of 2", 2, x.stepsToViolation(0, 2));
        x.setLimits(0, -10, 19989);
        Check.due("1999 of 2000", 1999, x.stepsToViolation(0, 2000));
        x.setLimits(0, -10, 19990);
        Check.due("2000 is not in 1999", NONE, x.stepsToViolation(0, 1999));
        Check.due("2000 of 2000", 2000, x.stepsToViolation(0, 2000));
        x.setLimits(0, -10, 20000);
        Check.due("2001 is not in 2000", NONE, x.stepsToViolation(0, 2000));
        Check.due("nor that of any node", NONE, x.stepsToViolation(NONE, 2000));
    }

    /** Promise 45: a violation is one after a step, not the present temperature, nor a recorded one. */
    static void violationBeforeTheNextStep() {
        LouvreCraft x = gaining();
        x.setLimits(0, 1, 100);
        Check.due("outside now, inside after a step", 11, x.stepsToViolation(0, 50));
        x.setLimits(0, 10, 100);
        Check.due("at the limit after a step", 11, x.stepsToViolation(NONE, 50));
        x.setLimits(0, 11, 100);
        Check.due("outside after a step", 1, x.stepsToViolation(0, 50));
        x.run(1);
        Check.due("recorded already", 10, x.firstViolation(0));
        Check.due("the first one ahead", 10, x.stepsToViolation(0, 50));
        x.addNode(1000, 0, 0, 0, 0);
        Check.due("another node has none", NONE, x.stepsToViolation(1, 50));
    }

    /** Promise 45: any node of no nodes. */
    static void anyNodeOfNone() {
        LouvreCraft x = new LouvreCraft();
        Check.due("any", NONE, x.stepsToViolation(NONE, 2000));
        Check.due("node 0", GONE, x.stepsToViolation(0, 2000));
        Check.due("any, no step", RANGE, x.stepsToViolation(NONE, 0));
        Check.due("any, 2001 steps", RANGE, x.stepsToViolation(NONE, 2001));
    }

    /** Promise 46: the temperatures after the steps, not the present one, the first and the last step included. */
    static void extremeOfTheNextStepAlone() {
        LouvreCraft x = gaining();
        Check.due("lowest of 1", 10, x.extremeAhead(0, 1, false));
        Check.due("highest of 1", 10, x.extremeAhead(0, 1, true));
        Check.due("lowest of 2000", 10, x.extremeAhead(0, 2000, false));
        Check.due("highest of 2000", 20000, x.extremeAhead(0, 2000, true));
        Check.due("NONE is no node here", GONE, x.extremeAhead(NONE, 1, true));
        x.setTemperature(0, 200000);
        Check.due("lowest at the hottest", 200000, x.extremeAhead(0, 3, false));
        x.setTemperature(0, -200000);
        Check.due("highest near the coldest", -199990, x.extremeAhead(0, 1, true));
    }

    /** Promise 47: 0 is the first one that is tried, 30000 the last one, and the steps end in time. */
    static void leastPowerAtItsEnds() {
        LouvreCraft x = withNodes(1);
        x.addHeater(0, 50, 100, 100, 0);
        x.setPower(1000000, 0, 0, 0);
        int[][] lowAndPower = {{-5, 0}, {0, 0}, {1, 1000}, {10, 1000}, {11, 2000}, {290, 29000}, {291, 30000}, {300, 30000}, {301, NONE}};
        for (int[] pair : lowAndPower) {
            x.setLimits(0, pair[0], 1000);
            Check.due("low " + pair[0], pair[1], x.leastHeaterPower(0, 1));
        }
        x.setLimits(0, 0, 0);
        Check.due("the first power is 0", 0, x.leastHeaterPower(0, 200));
        // 1 in each step, whatever the power is.
        x.setLoad(0, 100);
        x.setLimits(0, 0, 199);
        Check.due("199 steps end before the violation", 0, x.leastHeaterPower(0, 199));
        Check.due("200 steps do not", NONE, x.leastHeaterPower(0, 200));
        Check.due("its own power", 0, x.usedPower());
    }

    /** Promise 47: no node has a violation, also not one that has no heater. */
    static void leastPowerLooksAtAllNodes() {
        LouvreCraft x = withNodes(2);
        x.addHeater(0, 50, 100, 100, 0);
        x.setPower(1000000, 0, 0, 0);
        x.setLimits(0, 1, 1000);
        Check.due("node 1 has none", 1000, x.leastHeaterPower(0, 1));
        x.setLimits(1, 1, 1000);
        Check.due("node 1 has one", NONE, x.leastHeaterPower(0, 1));
        LouvreCraft empty = new LouvreCraft();
        Check.due("no heater", GONE, empty.leastHeaterPower(0, 1));
    }

    private static long emission(long area, long kelvin) {
        return area * kelvin * kelvin * kelvin * kelvin * 567 / 100000000000L;
    }

    /** Promise 48: 0 is the first one that is tried, 3000 the last one. */
    static void leastAreaAtItsEnds() {
        for (int area = 0; area <= 3000; area += 100) {
            int loss = (int) (emission(area, 273) * 10 / 1000);
            LouvreCraft x = withNodes(1);
            x.addLouvre(0, 7, -200000, -100000, 1000);
            x.setLimits(0, -200000, -loss);
            Check.due("just enough", area, x.leastLouvreArea(0, 1));
            x.setLimits(0, -200000, -loss - 1);
            Check.due("just not enough", area == 3000 ? NONE : area + 100, x.leastLouvreArea(0, 1));
        }
    }

    /** Promise 48: a violation behind the given steps does not count, and one in the last of them does. */
    static void leastAreaLooksAtTheSteps() {
        LouvreCraft x = withNodes(1);
        x.addLouvre(0, 7, 199999, 200000, 1000);
        x.setLoad(0, 100);
        x.setLimits(0, 0, 199);
        Check.due("199 steps end before the violation", 0, x.leastLouvreArea(0, 199));
        Check.due("200 steps do not", NONE, x.leastLouvreArea(0, 200));
    }

    /** Promise 48: no node has a violation, also not one that has no louvre. */
    static void leastAreaLooksAtAllNodes() {
        LouvreCraft x = withNodes(2);
        x.addLouvre(0, 7, -200000, -100000, 1000);
        x.setLimits(0, -200000, -1);
        Check.due("node 1 has none", 100, x.leastLouvreArea(0, 1));
        x.setLimits(1, -200000, -1);
        Check.due("node 1 has one", NONE, x.leastLouvreArea(0, 1));
        LouvreCraft empty = new LouvreCraft();
        Check.due("no louvre", GONE, empty.leastLouvreArea(0, 1));
    }

    /** Promise 49: the range of each parameter; an orbit of the built craft has 120 steps. */
    static void settlingOrbitRanges() {
        Twins.range("tolerance", 0, 100000, RANGE, (x, value) -> x.settlingOrbit(value, 1));
        Twins.range("most", 1, 20, RANGE, (x, value) -> x.settlingOrbit(0, value));
    }

    /** Promise 49: most * S is at most 4000. */
    static void mostTimesStepsOfAnOrbit() {
        LouvreCraft x = new LouvreCraft();
        x.setStepLength(1);
        int[][] periodAndMost = {{4000, 1}, {2000, 2}, {1333, 3}, {200, 20}, {210, 19}};
        for (int[] pair : periodAndMost) {
            x.setOrbit(pair[0], 0, 0, 0, 0, 0);
            Check.due("most " + pair[1], 1, x.settlingOrbit(0, pair[1]));
            x.setOrbit(pair[0] + 1, 0, 0, 0, 0, 0);
            Check.due("most " + pair[1] + " of an orbit that is too long", RANGE, x.settlingOrbit(0, pair[1]));
        }
        x.setOrbit(100000, 0, 0, 0, 0, 0);
        Check.due("the longest orbit", RANGE, x.settlingOrbit(0, 20));
        x.setOrbit(1, 0, 0, 0, 0, 0);
        Check.due("the shortest orbit", 1, x.settlingOrbit(0, 20));
    }

    /** Promise 49: a difference of the tolerance itself is allowed, to both sides, for each node. */
    static void toleranceIsAllowed() {
        LouvreCraft x = gaining();
        x.setOrbit(10, 0, 0, 0, 0, 0);
        Check.due("10 warmer", 1, x.settlingOrbit(10, 1));
        Check.due("10 warmer is more than 9", NONE, x.settlingOrbit(9, 20));
        LouvreCraft y = withNodes(2);
        y.setTemperature(1, 1000);
        y.link(0, 1, 1000);
        y.setOrbit(10, 0, 0, 0, 0, 0);
        Check.due("one 10 warmer, the other 10 colder", 1, y.settlingOrbit(10, 1));
        Check.due("10 is more than 9", NONE, y.settlingOrbit(9, 1));
        Check.due("less in the second orbit", 2, y.settlingOrbit(9, 2));
        LouvreCraft still = withNodes(12);
        Check.due("nothing changes", 1, still.settlingOrbit(0, 1));
        LouvreCraft empty = new LouvreCraft();
        Check.due("no nodes", 1, empty.settlingOrbit(0, 1));
    }

    /** Promise 49: S is period / D, rounded up. */
    static void stepsOfAnOrbitAreRoundedUp() {
        int[][] periodAndSteps = {{1, 1}, {9, 1}, {10, 1}, {11, 2}, {19, 2}, {20, 2}, {21, 3}, {95, 10}};
        for (int[] pair : periodAndSteps) {
            LouvreCraft x = gaining();
            x.setOrbit(pair[0], 0, 0, 0, 0, 0);
            Check.due("10 in each step", 1, x.settlingOrbit(10 * pair[1], 1));
            Check.due("10 in each step", NONE, x.settlingOrbit(10 * pair[1] - 1, 1));
        }
    }
}
