/** The boundary cases of the rules (the description and promises 50 to 56) and of saved states (57 and 58), in their order. */
public final class TextBoundsTest {
    private static final int RANGE = LouvreCraft.OUT_OF_RANGE;
    private static final int FULL = LouvreCraft.FULL;
    private static final int SYNTAX = LouvreCraft.SYNTAX_ERROR;
    private static final String DONE = "heater 0 on;";

    public static void main(String[] args) {
        bytesBetweenTokens();
        bytesBehindTokens();
        wordsAreMaximalRuns();
        numbersAreMaximalRuns();
        greatestNumber();
        anyNumberOfDigits();
        noRules();
        twelveRules();
        firstTokenOfAThirteenthRule();
        twentyLevels();
        twentyFirstLevel();
        whatIsNoLevel();
        levelsOfEachSum();
        numbersOfNodes();
        numbersOfLouvres();
        numbersOfHeaters();
        partsOfAnEmptyCraft();
        partsAreThoseAtTheLoading();
        sunIsOneOrZero();
        stateOffOnShed();
        usedOfHeatersThatAreOn();
        operatorsFromLeftToRight();
        sumsAreLimited();
        differencesAreLimited();
        productsAreLimited();
        eachOperationIsLimited();
        divisionTruncates();
        divisionByZero();
        comparisonsOfEquals();
        orStops();
        andStops();
        loadIsMovedToItsRange();
        actionOfATestThatDoesNotHold();
        textEndsTooEarly();
        firstWrongTokenCounts();
        appendTextUpTo500Bytes();
        fullTextStays();
        highestByteFirst();
        truncateTextRange();
        loadRulesOfAnEmptyText();
        textIsEmptyAfterwards();
        previousRulesStay();
        errorsOfTheLatestText();
        noSuchCallYet();
        ruleHoldsRange();
        ruleHoldsDoesNothing();
        saveRange();
        restoreRange();
        restoreOfNothing();
        replacedAndKept();
        whatIsNotSaved();
        stateOfANewObject();
        Check.finish();
    }

    /** Two nodes, one louvre, three heaters. */
    private static LouvreCraft craft() {
        LouvreCraft x = new LouvreCraft();
        x.addNode(100000, 1234, 0, 0, 0);
        x.addNode(100000, -567, 0, 0, 0);
        x.addLouvre(0, 0, 0, 10000, 1000);
        for (int heater = 0; heater < 3; heater++) {
            x.addHeater(1, 100 << heater, -200000, -200000, 0);
        }
        return x;
    }

    private static void fine(int rules, String text) {
        Check.fine(craft(), rules, text);
    }

    private static void error(int code, int position, String text) {
        Check.error(craft(), code, position, text);
    }

    private static void holds(LouvreCraft x, boolean want, String test) {
        Check.fine(x, 1, "when " + test + ":" + DONE);
        Check.due(test, want ? 1 : 0, x.ruleHolds(0));
    }

    /** The value of a sum, which is equal to it, and neither less nor greater. */
    private static void value(LouvreCraft x, long want, String sum) {
        String number = want < 0 ? "-" + written(-want) : written(want);
        holds(x, true, sum + " = " + number);
        holds(x, false, sum + " < " + number);
        holds(x, false, sum + " > " + number);
    }

    /** A number that may be greater than 999999, as it can be written. */
    private static String written(long number) {
        return number <= 999999 ? "" + number : "(" + written(number / 1000) + " * 1000 + " + number % 1000 + ")";
    }

    /** "Spaces (byte 32) and line feeds (byte 10) may stand between tokens", and no other byte. */
    static void bytesBetweenTokens() {
        for (int sign = 0; sign < 256; sign++) {
            String text = "heater 0" + (char) sign + "on;";
            if (sign == 32 || sign == 10) {
                fine(1, text);
            } else if (sign >= '0' && sign <= '2') {
                fine(1, text);
            } else if (sign >= '3' && sign <= '9') {
                error(2, 7, text);
            } else {
                error(1, 8, text);
            }
        }
    }

    /** "The error code is 1 if .. a byte belongs to no token": behind a rule, where any rule may follow. */
    static void bytesBehindTokens() {
        for (int sign = 0; sign < 256; sign++) {
            String text = DONE + (char) sign;
            if (sign == 32 || sign == 10) {
                fine(1, text);
            } else {
                error(1, 12, text);
            }
            String inside = "load 0 = 1" + (char) sign + "2;";
            if (sign >= '0' && sign <= '9' || sign == '+' || sign == '-' || sign == '*' || sign == '/') {
                fine(1, inside);
            } else {
                error(1, sign == 32 || sign == 10 ? 11 : sign == ';' ? 11 : 10, inside);
            }
        }
    }

    /** "Words (maximal runs of the letters a to z)" */
    static void wordsAreMaximalRuns() {
        fine(1, "heater0on;");
        fine(1, "when sun=1:heater 0 on;");
        fine(1, "when 1<sun:heater 0 on;");
        error(1, 0, "heateron0;");
        error(1, 0, "whensun=1:heater 0 on;");
        error(1, 5, "when notsun=1:heater 0 on;");
        error(1, 8, "heater 0onon;");
        error(1, 0, "heater" + "x".repeat(480));
        error(1, 0, "z".repeat(500));
        error(1, 0, "a");
        error(1, 0, "HEATER 0 on;");
        error(1, 4, "loadE 0=1;");
    }

    /** "Numbers (maximal runs of the digits 0 to 9)" */
    static void numbersAreMaximalRuns() {
        fine(1, "load 0=12;");
        error(1, 9, "load 0=1 2;");
        error(1, 9, "load 0=1\n2;");
        error(1, 8, "load 0=1.2;");
        error(2, 7, "heater 00003 on;");
        fine(1, "heater 00002 on;");
        LouvreCraft x = craft();
        value(x, 12, "12");
        value(x, 120, "0120");
    }

    /** "Numbers have values from 0 to 999999": error 2 "if a number is greater than 999999". */
    static void greatestNumber() {
        fine(1, "load 0=0;");
        fine(1, "load 0=999999;");
        error(2, 7, "load 0=1000000;");
        error(2, 7, "load 0=2147483647;");
        error(2, 7, "load 0=2147483648;");
        error(2, 7, "load 0=4294967295;");
        error(2, 7, "load 0=4294967296;");
        error(2, 7, "load 0=4294967297;");
        error(2, 7, "load 0=18446744073709551616;");
        error(2, 7, "load 0=18446744073709551617;");
        error(2, 5, "load 4294967296=1;");
        error(2, 5, "load 1000000=1;");
        error(2, 7, "heater 18446744073709551616 on;");
        error(2, 7, "louvre 1000000 hold;");
        error(2, 5, "when 1000000=1:heater 0 on;");
        error(2, 7, "when 1=1000000:heater 0 on;");
        error(2, 8, "load 0=-1000000;");
        LouvreCraft x = craft();
        value(x, 999999, "999999");
        value(x, 0, "0");
    }

    /** "and may have any number of digits" */
    static void anyNumberOfDigits() {
        LouvreCraft x = craft();
        Check.fine(x, 1, "load 0=" + "0".repeat(486) + "999999;");
        x.run(1);
        Check.due("load", 999999, x.load(0));
        Check.fine(x, 1, "load 0=" + "0".repeat(492) + ";");
        x.run(1);
        Check.due("load", 0, x.load(0));
        error(2, 7, "load 0=" + "0".repeat(485) + "1000000;");
        error(2, 7, "load 0=" + "9".repeat(492) + ";");
        error(2, 7, "load 0=1" + "0".repeat(491) + ";");
        error(2, 7, "heater " + "1".repeat(489) + " on;");
        fine(1, "heater " + "0".repeat(488) + "2 on;");
    }

    /** "rules = { rule ';' }": none is allowed, and a rule is not empty. */
    static void noRules() {
        fine(0, "");
        fine(0, " ");
        fine(0, "\n");
        fine(0, " \n".repeat(250));
        error(1, 0, ";");
        error(1, 12, DONE + ";");
        error(1, 13, DONE + " ;");
    }

    /** "at most 12 rules" */
    static void twelveRules() {
        LouvreCraft x = craft();
        for (int rules = 1; rules <= 12; rules++) {
            Check.fine(x, rules, DONE.repeat(rules));
            Check.due("ruleCount", rules, x.ruleCount());
        }
        Check.fine(x, 12, (DONE + " ").repeat(11) + "load 1 = 77; \n");
        x.run(1);
        Check.due("the twelfth is carried out", 77, x.load(1));
        Check.due("and holds", 1, x.ruleHolds(11));
        Check.due("there is no thirteenth", RANGE, x.ruleHolds(12));
    }

    /** "3 for the first token of a 13th rule if a rule could begin with it", otherwise 1. */
    static void firstTokenOfAThirteenthRule() {
        String twelve = DONE.repeat(12);
        for (String begin : new String[] {"when", "heater", "louvre", "load", "when 1=1:heater 0 on;", "heater 9 on;", "load?"}) {
            error(3, 144, twelve + begin);
            error(3, 146, twelve + " \n" + begin);
        }
        for (String other : new String[] {"temp", "open", "state", "sun", "phase", "charge", "used", "not", "and", "or", "on", "off",
            "auto", "hold", "free", "heaters", "x", "0", "999999", "1000000", "<", ">", "=", "+", "-", "*", "/", "(", ")", ":", ";",
            "?", "A", "\0", "\u00ff"}) {
            error(1, 144, twelve + other);
            error(1, 145, twelve + " " + other);
        }
        LouvreCraft x = craft();
        Check.fine(x, 12, twelve);
        Check.error(x, 3, 144, twelve + DONE);
        Check.due("the previous rules stay", 12, x.ruleCount());
        error(1, 140, DONE.repeat(11) + "heater 0;");
        error(1, 143, twelve.substring(0, 143));
    }

    /** "At most 20 factors may be nested within one another, where '-' and '(' count as one level each." */
    static void twentyLevels() {
        LouvreCraft x = craft();
        value(x, 5, "(".repeat(20) + "5" + ")".repeat(20));
        value(x, 5, "-".repeat(20) + "5");
        value(x, -5, "-".repeat(19) + "5");
        value(x, 5, "-(".repeat(10) + "5" + ")".repeat(10));
        value(x, 5, "(-".repeat(10) + "5" + ")".repeat(10));
        value(x, 1234, "(".repeat(20) + "temp 0" + ")".repeat(20));
        value(x, 0, "(".repeat(20) + "1-1" + ")".repeat(20));
        value(x, 21, "(1+".repeat(20) + "1" + ")".repeat(20));
    }

    /** "4 for a '-' or '(' that is nested too deeply" */
    static void twentyFirstLevel() {
        error(4, 27, "load 0=" + "(".repeat(21) + "5" + ")".repeat(21) + ";");
        error(4, 27, "load 0=" + "-".repeat(21) + "5;");
        error(4, 27, "load 0=" + "-(".repeat(10) + "-5" + ")".repeat(10) + ";");
        error(4, 27, "load 0=" + "(".repeat(20) + "-5" + ")".repeat(20) + ";");
        error(4, 27, "load 0=" + "-".repeat(20) + "(5);");
        error(4, 28, "load 0=" + "-".repeat(20) + " (");
        error(4, 29, "load 0=" + "(".repeat(20) + "5*-5" + ")".repeat(20) + ";");
        error(4, 29, "load 0=" + "(".repeat(20) + "5+(5)" + ")".repeat(20) + ";");
        error(4, 27, "load 0=" + "(".repeat(493));
        error(4, 27, "load 0=" + "-".repeat(493));
        error(1, 27, "load 0=" + "-".repeat(20) + "+5;");
        error(1, 27, "load 0=" + "(".repeat(20) + ")");
        error(1, 27, "load 0=" + "(".repeat(20));
        error(1, 27, "load 0=" + "(".repeat(20) + "?");
    }

    /** A sign between two products is no level, and a level ends with its factor. */
    static void whatIsNoLevel() {
        LouvreCraft x = craft();
        value(x, -1, "(".repeat(20) + "5-6" + ")".repeat(20));
        value(x, 10, "-".repeat(20) + "5 - " + "-".repeat(19) + "5");
        value(x, 25, "(".repeat(20) + "5" + ")".repeat(20) + " * " + "(".repeat(20) + "5" + ")".repeat(20));
        value(x, -99, "1" + "-1".repeat(100));
        value(x, 30, "(5)" + "+(5)".repeat(5));
        fine(1, "load 0=" + "-5-".repeat(100) + "5;");
        fine(1, "load 0=" + "((1))*".repeat(80) + "5;");
    }

    /** Each sum of a comparison, and that of a load, has levels of its own. */
    static void levelsOfEachSum() {
        String deep = "(".repeat(20) + "5" + ")".repeat(20);
        fine(1, "when " + deep + "=" + deep + " and not " + deep + "=" + deep + " or " + deep + "=" + deep + ":load 0=" + deep + ";");
        error(4, 25, "when (" + deep + ")=" + deep + ":load 0=1;");
        error(4, 5 + 41 + 1 + 20, "when " + deep + "=(" + deep + "):load 0=1;");
        error(4, 5 + 41 + 2 + 8 + 20, "when " + deep + "=1:load 0=(" + deep + ");");
    }

    /** "NODE, LOUVRE and HEATER are the numbers of existing nodes, louvres and heaters": error 2 otherwise. */
    static void numbersOfNodes() {
        fine(1, "load 0=1;");
        fine(1, "load 1=1;");
        error(2, 5, "load 2=1;");
        fine(1, "load 0=temp 0;");
        fine(1, "load 0=temp 1;");
        error(2, 12, "load 0=temp 2;");
        error(2, 10, "when temp 2=1:load 0=1;");
        error(2, 14, "load 0=-(temp 12);");
        error(1, 5, "load -1=1;");
        error(1, 12, "load 0=temp -1;");
        error(1, 12, "load 0=temp (1);");
        error(1, 12, "load 0=temp temp 1;");
        LouvreCraft full = Twins.full();
        Check.fine(full, 1, "load 11=temp 11;");
        Check.error(full, 2, 5, "load 12=1;");
        Check.error(full, 2, 13, "load 11=temp 12;");
    }

    static void numbersOfLouvres() {
        fine(1, "louvre 0 hold;");
        error(2, 7, "louvre 1 hold;");
        error(2, 7, "louvre 1 free;");
        fine(1, "load 0=open 0;");
        error(2, 12, "load 0=open 1;");
        error(1, 7, "louvre -1 hold;");
        error(1, 12, "load 0=open on;");
        LouvreCraft full = Twins.full();
        Check.fine(full, 1, "when open 5=1:louvre 5 hold;");
        Check.error(full, 2, 7, "louvre 6 hold;");
        Check.error(full, 2, 10, "when open 6=1:louvre 5 hold;");
    }

    static void numbersOfHeaters() {
        fine(1, "heater 0 on;");
        fine(1, "heater 2 auto;");
        error(2, 7, "heater 3 on;");
        fine(1, "load 0=state 2;");
        error(2, 13, "load 0=state 3;");
        error(1, 7, "heater -1 on;");
        error(1, 12, "load 0=state;");
        LouvreCraft full = Twins.full();
        Check.fine(full, 1, "when state 7=1:heater 7 off;");
        Check.error(full, 2, 7, "heater 8 off;");
        Check.error(full, 2, 11, "when state 8=1:heater 7 off;");
    }

    static void partsOfAnEmptyCraft() {
        LouvreCraft x = new LouvreCraft();
        Check.error(x, 2, 5, "load 0=1;");
        Check.error(x, 2, 7, "louvre 0 hold;");
        Check.error(x, 2, 7, "heater 0 on;");
        Check.error(x, 2, 10, "when temp 0=1:heater 0 on;");
        Check.error(x, 2, 10, "when open 0=1:heater 0 on;");
        Check.error(x, 2, 11, "when state 0=1:heater 0 on;");
        Check.error(x, 2, 36, "when sun+phase+charge+used=1:heater 0 on;");
        Check.fine(x, 0, "");
    }

    /** A part that comes after the rules does not mend them, nor does it change what is loaded. */
    static void partsAreThoseAtTheLoading() {
        LouvreCraft x = craft();
        Check.error(x, 2, 5, "load 2=1;");
        x.addNode(1000, 0, 0, 0, 0);
        Check.due("no rule", 0, x.ruleCount());
        Check.fine(x, 1, "load 2=55;");
        x.addNode(1000, 0, 0, 0, 0);
        x.run(1);
        Check.due("load", 55, x.load(2));
        Check.due("load", 0, x.load(3));
    }

    /** "sun is 1 if there is sun and otherwise 0" */
    static void sunIsOneOrZero() {
        LouvreCraft x = craft();
        x.setOrbit(20, 10, 20, 0, 0, 0);
        value(x, 1, "sun");
        value(x, 0, "phase");
        x.run(1);
        value(x, 0, "sun");
        value(x, 10, "phase");
        x.run(1);
        value(x, 1, "sun");
        value(x, 0, "phase");
    }

    static void stateOffOnShed() {
        LouvreCraft x = craft();
        x.setMode(0, 1);
        x.setMode(1, 1);
        x.setPower(100, 0, 0, 0);
        value(x, 0, "state 0");
        x.run(1);
        value(x, 1, "state 0");
        value(x, 2, "state 1");
        value(x, 0, "state 2");
    }

    /** "used the sum of the powers of all heaters that are on", not of those that are shed. */
    static void usedOfHeatersThatAreOn() {
        LouvreCraft x = craft();
        value(x, 0, "used");
        value(x, 0, "charge");
        for (int heater = 0; heater < 3; heater++) {
            x.setMode(heater, 1);
        }
        x.setPower(699, 0, 1000000000, 0);
        x.run(1);
        value(x, 300, "used");
        value(x, 3990, "charge");
        x.setPower(0, 0, 1000000000, 1000000000);
        value(x, 1000000000, "charge");
    }

    /** "Operators of one level are applied from left to right." */
    static void operatorsFromLeftToRight() {
        LouvreCraft x = craft();
        value(x, -8, "1 - 2 - 3 - 4");
        value(x, 2, "1 - 2 + 3");
        value(x, 1, "100 / 10 / 10");
        value(x, 9, "10 / 3 * 3");
        value(x, 10, "10 * 3 / 3");
        value(x, 7, "1 + 2 * 3");
        value(x, -5, "1 - 2 * 3");
        value(x, -2, "-7 / 3");
        value(x, -9, "-3 * 3");
        value(x, 0, "-3 + 3");
        value(x, -6, "-(3 + 3)");
    }

    private static final String MOST = "(500000 * 2 * 500000 * 2)";

    /** "The exact result of every operation is limited to the range from -1000000000000 to 1000000000000": "+". */
    static void sumsAreLimited() {
        LouvreCraft x = craft();
        value(x, 1000000000000L, MOST);
        value(x, 1000000000000L, "(" + MOST + " - 1) + 1");
        value(x, 1000000000000L, MOST + " + 1");
        value(x, 999999999999L, MOST + " + 1 - 1");
        value(x, 1000000000000L, MOST + " + " + MOST);
        value(x, -1000000000000L, "-" + MOST + " + -1");
        value(x, -999999999999L, "-" + MOST + " + -1 + 1");
        value(x, -1000000000000L, "-" + MOST + " + -" + MOST);
        value(x, 0, "-" + MOST + " + " + MOST);
    }

    static void differencesAreLimited() {
        LouvreCraft x = craft();
        value(x, -1000000000000L, "-" + MOST + " - 1");
        value(x, -999999999999L, "-" + MOST + " - 1 + 1");
        value(x, -1000000000000L, "1 - " + MOST + " - 1");
        value(x, 1000000000000L, MOST + " - -1");
        value(x, 1000000000000L, MOST + " - -" + MOST);
        value(x, -1000000000000L, "-" + MOST + " - " + MOST);
        value(x, 0, MOST + " - " + MOST);
        value(x, -1000000000000L, "0 - " + MOST);
    }

    /** "also of a multiplication whose result would not fit into 64 bits" */
    static void productsAreLimited() {
        LouvreCraft x = craft();
        value(x, 1000000000000L, MOST + " * 1");
        value(x, 1000000000000L, MOST + " * 2");
        value(x, 1000000000000L, MOST + " * " + MOST);
        value(x, -1000000000000L, MOST + " * -" + MOST);
        value(x, -1000000000000L, "-" + MOST + " * " + MOST);
        value(x, 1000000000000L, "-" + MOST + " * -" + MOST);
        value(x, -1000000000000L, MOST + " * -1");
        value(x, -1000000000000L, "-2 * " + MOST);
        value(x, 0, MOST + " * 0");
        value(x, 0, "0 * -" + MOST);
        value(x, 1000000000000L, "(999999 + 1) * (999999 + 1)");
        value(x, 999999000000L, "(999999 + 1) * 999999");
        value(x, 1000000000000L, "(999999 + 2) * (999999 + 1)");
        value(x, -1000000000000L, "-(999999 + 2) * (999999 + 1)");
        value(x, 999999999999L, "999999 * 2 / 2 * (999999 + 1) + 999999");
        // 2^32 * 2^32 is 0 in 64 bits, 2^31 * 2^33 too, and 6074001000 squared is more than 2^63 - 1.
        value(x, 1000000000000L, "(65536 * 65536) * (65536 * 65536)");
        value(x, 1000000000000L, "(32768 * 65536) * (65536 * 131072)");
        value(x, 1000000000000L, "(60740 * 100001) * (60740 * 100001)");
        value(x, -1000000000000L, "(60740 * 100001) * -(60740 * 100001)");
        value(x, 1000000000000L, "(1000 * 1000 * 10) * (1000 * 100 + 1)");
        value(x, 1000000000000L, "(1000 * 1000 * 10) * (1000 * 100)");
        value(x, 999990000000L, "(1000 * 1000 * 10) * (1000 * 100 - 1)");
    }

    /** Not only the last result is limited. */
    static void eachOperationIsLimited() {
        LouvreCraft x = craft();
        value(x, 1000000, MOST + " * 999999 / (999999 + 1)");
        value(x, 0, MOST + " + " + MOST + " - " + MOST);
        value(x, 999999999998L, MOST + " * 2 - 2");
        value(x, 500000000000L, "(" + MOST + " + " + MOST + ") / 2");
    }

    /** "All divisions truncate towards zero." */
    static void divisionTruncates() {
        LouvreCraft x = craft();
        value(x, 2, "8 / 3");
        value(x, -2, "-8 / 3");
        value(x, -2, "8 / -3");
        value(x, 2, "-8 / -3");
        value(x, 0, "2 / 3");
        value(x, 0, "-2 / 3");
        value(x, 1, "3 / 3");
        value(x, -1, "-3 / 3");
        value(x, 1, MOST + " / " + MOST);
        value(x, -1000000000000L, MOST + " / -1");
        value(x, 0, "0 / 7");
    }

    /** "Division by 0 gives 0." */
    static void divisionByZero() {
        LouvreCraft x = craft();
        value(x, 0, "7 / 0");
        value(x, 0, "-7 / 0");
        value(x, 0, "0 / 0");
        value(x, 0, MOST + " / 0");
        value(x, 0, "7 / (5 - 5)");
        value(x, 0, "7 / -0");
        value(x, 0, "7 / used");
        value(x, 3, "7 / 0 + 3");
        value(x, 0, "7 / 0 * 3");
        value(x, 0, "7 / (1 / 2)");
        LouvreCraft y = craft();
        y.setLoad(0, 5);
        Check.fine(y, 1, "load 0=5/0;");
        y.run(1);
        Check.due("load", 0, y.load(0));
    }

    /** "sum ( '<' | '>' | '=' ) sum", at equality and next to it. */
    static void comparisonsOfEquals() {
        LouvreCraft x = craft();
        holds(x, false, "temp 0 < 1234");
        holds(x, true, "temp 0 < 1235");
        holds(x, false, "temp 0 > 1234");
        holds(x, true, "temp 0 > 1233");
        holds(x, true, "temp 0 = 1234");
        holds(x, false, "temp 0 = 1233");
        holds(x, true, "not temp 0 < 1234");
        holds(x, false, "not temp 0 < 1235");
        holds(x, true, "not temp 0 > 1234");
        holds(x, false, "not temp 0 = 1234");
        holds(x, true, "temp 1 < 0");
        holds(x, true, "temp 1 = -567");
        holds(x, true, "-" + MOST + " < " + MOST);
        holds(x, true, "0 = -0");
    }

    /** "'or' stops at the first both that holds" */
    static void orStops() {
        LouvreCraft x = craft();
        holds(x, true, "1=1 or 1=2");
        holds(x, true, "1=2 or 1=1");
        holds(x, false, "1=2 or 1=2");
        holds(x, true, "1=1 or 1=2 and 1=2");
        holds(x, true, "1=2 and 1=1 or 1=1");
        holds(x, true, "1=2 and 1=2 or 1=2 and 1=1 or 1=1");
        holds(x, false, "1=2 and 1=1 or 1=1 and 1=2");
        holds(x, true, "1=1 or " + "1=2 or ".repeat(60) + "1=2");
        holds(x, true, "1=2 or ".repeat(60) + "1=1");
    }

    /** "and 'and' at the first comparison that does not hold" */
    static void andStops() {
        LouvreCraft x = craft();
        holds(x, true, "1=1 and 1=1");
        holds(x, false, "1=1 and 1=2");
        holds(x, false, "1=2 and 1=1");
        holds(x, false, "1=2 and 1=1 and 1=1");
        holds(x, false, "1=1 and 1=1 and 1=2");
        holds(x, true, "1=1 and not 1=2");
        holds(x, false, "not 1=1 and 1=1");
        holds(x, false, "1=2 and " + "1=1 and ".repeat(50) + "1=1");
        holds(x, false, "1=1 and ".repeat(50) + "1=2");
        holds(x, true, "1=1 and ".repeat(50) + "1=1");
    }

    /** "The load of the node becomes the value of the sum, moved to the nearest value from 0 to 1000000." */
    static void loadIsMovedToItsRange() {
        String[] sums = {"-1", "0", "1", "999999", "999999+1", "999999+2", MOST, "-" + MOST, "2*500000-1"};
        int[] loads = {0, 0, 1, 999999, 1000000, 1000000, 1000000, 0, 999999};
        for (int i = 0; i < sums.length; i++) {
            LouvreCraft x = craft();
            x.setLoad(1, 77);
            Check.fine(x, 1, "load 1=" + sums[i] + ";");
            x.run(1);
            Check.due("load 1=" + sums[i], loads[i], x.load(1));
            Check.due("the other load", 0, x.load(0));
        }
    }

    /** "If it has no test or its test holds, its action is done", otherwise not. */
    static void actionOfATestThatDoesNotHold() {
        LouvreCraft x = craft();
        x.setLoad(0, 5);
        x.setMode(1, 1);
        Check.fine(x, 5, "when 1=2:load 0=7; when 1=2:heater 0 on; when 1=2:louvre 0 hold; when 1=1:heater 1 auto; heater 2 off;");
        x.run(1);
        Check.due("load", 5, x.load(0));
        Check.due("heater 0", 0, x.heaterMode(0));
        Check.due("louvre 0", 0, x.isHeld(0));
        Check.due("heater 1", 0, x.heaterMode(1));
        Check.due("heater 2", 2, x.heaterMode(2));
        for (int rule = 0; rule < 5; rule++) {
            Check.due("ruleHolds " + rule, rule < 3 ? 0 : 1, x.ruleHolds(rule));
        }
    }

    /** "The error position is .. the length of the text if the text ends too early", wherever it ends. */
    static void textEndsTooEarly() {
        String[] rules = {"when not temp 0 + 1 < ( 2 ) * - 3 and open 0 > state 1 or sun = phase : heater 0 on ;",
            "louvre 0 free ;", "load 1 = charge / used ;", "heater 2 auto ;"};
        for (String rule : rules) {
            fine(1, rule);
            for (int end = 1; end < rule.length(); end++) {
                boolean whole = rule.charAt(end - 1) == ' ' || rule.charAt(end) == ' ';
                if (whole) {
                    error(1, end, rule.substring(0, end));
                    error(1, end + 2, rule.substring(0, end) + "\n ");
                }
            }
        }
        error(1, 0, "h");
        error(1, 0, "heate");
        error(1, 6, "heater");
        error(1, 500, "heater 0 on" + " ".repeat(489));
        error(1, 500, " ".repeat(494) + "heater");
    }

    /** "The parser .. stops at the first token that is wrong." */
    static void firstWrongTokenCounts() {
        error(1, 6, "heater; heater 9 on; ?");
        error(2, 7, "heater 9 ? on;");
        error(2, 7, "heater 3 hold;");
        error(1, 9, "heater 0 hold; heater 9 on;");
        error(1, 0, "? " + "(".repeat(100));
        error(2, 7, "load 0=1000000" + "(".repeat(30) + ";");
        error(4, 27, "load 0=" + "-".repeat(30) + "1000000;");
        error(2, 19, DONE + "heater 3 on; ?");
        error(1, 12, DONE + "? heater 3 on;");
    }

    /** Promise 50: "FULL if the text would be longer than 500 bytes." */
    static void appendTextUpTo500Bytes() {
        for (int less = 0; less < 4; less++) {
            LouvreCraft x = craft();
            for (int bytes = 4; bytes <= 500; bytes += 4) {
                Check.due("appendText", bytes, x.appendText(0x20202020));
            }
            Check.due("truncateText", 500 - less, x.truncateText(500 - less));
            Check.due("more than 500", FULL, x.appendText(0x20202020));
            Check.due("as long as it was", 500 - less, x.truncateText(500 - less));
            Check.due("not longer", RANGE, x.truncateText(501 - less));
            Check.due("496", 496, x.truncateText(496));
            Check.due("500", 500, x.appendText(0x20202020));
        }
    }

    /** Promise 50: a call that is FULL changes nothing. */
    static void fullTextStays() {
        Twins.refused("500 bytes and 4", FULL, Twins::fullText, x -> x.appendText(0x3b3b3b3b));
        LouvreCraft x = Twins.fullText();
        Check.due("FULL", FULL, x.appendText(-1));
        Check.due("the rule of 500 bytes", 1, x.loadRules());
        x.run(1);
        Check.due("246 ones", 246, x.load(0));
    }

    /** Promise 50: "the highest byte of the parameter first", also of a negative one. */
    static void highestByteFirst() {
        LouvreCraft x = craft();
        x.appendText('l' << 24 | 'o' << 16 | 'a' << 8 | 'd');
        x.appendText('0' << 24 | '=' << 16 | '7' << 8 | ';');
        Check.due("load0=7;", 1, x.loadRules());
        int[] fourBytes = {-1, Integer.MIN_VALUE, 0x20ffffff, 0x2020ff20, 0x202020ff, 0x20202080, 0x0a200a7f};
        int[] positions = {0, 0, 1, 2, 3, 3, 3};
        for (int i = 0; i < fourBytes.length; i++) {
            Check.due("appendText", 4, x.appendText(fourBytes[i]));
            Check.due("loadRules", SYNTAX, x.loadRules());
            Check.due("errorCode", 1, x.errorCode());
            Check.due("errorPosition", positions[i], x.errorPosition());
        }
    }

    /** Promise 51: "0 to the present length". */
    static void truncateTextRange() {
        Twins.range("truncateText", 0, 13, RANGE, (x, value) -> x.truncateText(value));
        LouvreCraft x = new LouvreCraft();
        Check.due("empty", 0, x.truncateText(0));
        Check.due("longer than empty", RANGE, x.truncateText(1));
        LouvreCraft full = Twins.fullText();
        Check.due("500", 500, full.truncateText(500));
        Check.due("501", RANGE, full.truncateText(501));
        Check.due("0", 0, full.truncateText(0));
        Check.due("1", RANGE, full.truncateText(1));
        Check.due("room again", 4, full.appendText(0x20202020));
    }

    /** Promise 52: an empty text has no rules, which replace the previous ones. */
    static void loadRulesOfAnEmptyText() {
        LouvreCraft x = craft();
        Check.due("no rules", 0, x.loadRules());
        Check.fine(x, 2, DONE + DONE);
        Check.due("replaced", 0, x.loadRules());
        Check.due("ruleCount", 0, x.ruleCount());
        x.run(1);
        Check.due("nothing is done", 0, x.heaterMode(0));
        Check.due("errorCode", 0, x.errorCode());
    }

    /** Promise 52: "The text buffer is empty afterwards, also if there is an error." */
    static void textIsEmptyAfterwards() {
        LouvreCraft x = craft();
        for (String text : new String[] {DONE, "?", "heater 9 on;", DONE.repeat(13), "load 0=" + "-".repeat(30), "heater", ""}) {
            Check.load(x, text);
            Check.due("no byte to keep", RANGE, x.truncateText(1));
            Check.due("no rule in it", 0, x.loadRules());
            Check.due("from the beginning", 4, x.appendText(0x20202020));
            Check.due("truncateText", 0, x.truncateText(0));
        }
    }

    /** Promise 52: "SYNTAX_ERROR (the previous rules stay)", whatever the error is. */
    static void previousRulesStay() {
        String[] texts = {"load 1=5; ?", "load 1=5; heater 9 on;", "load 1=5;".repeat(13), "load 1=5; load 0=" + "-".repeat(30), "load 1=5; heater"};
        for (String text : texts) {
            LouvreCraft x = craft();
            Check.fine(x, 2, "load 0=3; when temp 0=0: load 1=9;");
            Check.due("loadRules", SYNTAX, Check.load(x, text));
            Check.due("ruleCount", 2, x.ruleCount());
            Check.due("ruleHolds(0)", 1, x.ruleHolds(0));
            Check.due("ruleHolds(1)", 0, x.ruleHolds(1));
            Check.due("ruleHolds(2)", RANGE, x.ruleHolds(2));
            x.run(1);
            Check.due("load 0", 3, x.load(0));
            Check.due("load 1", 0, x.load(1));
        }
    }

    /** Promises 53 and 54: of the latest call, until the next one. */
    static void errorsOfTheLatestText() {
        LouvreCraft x = craft();
        Check.error(x, 2, 7, "heater 9 on;");
        x.appendText(0x20202020);
        x.truncateText(0);
        x.run(1);
        Check.due("errorCode stays", 2, x.errorCode());
        Check.due("errorPosition stays", 7, x.errorPosition());
        Check.error(x, 1, 0, "?");
        Check.fine(x, 0, "");
        Check.error(x, 4, 27, "load 0=" + "-".repeat(21) + "1;");
        Check.fine(x, 1, DONE);
    }

    /** Promises 53 and 54: "or if there was no such call". */
    static void noSuchCallYet() {
        LouvreCraft x = new LouvreCraft();
        Check.due("errorCode", 0, x.errorCode());
        Check.due("errorPosition", LouvreCraft.NONE, x.errorPosition());
        x.appendText(-1);
        Check.due("errorCode of a text that is not read", 0, x.errorCode());
        Check.due("errorPosition of a text that is not read", LouvreCraft.NONE, x.errorPosition());
    }

    /** Promise 56: "OUT_OF_RANGE if there is no such rule". */
    static void ruleHoldsRange() {
        Twins.range("rule", 0, 1, RANGE, (x, value) -> x.ruleHolds(value));
        LouvreCraft x = new LouvreCraft();
        Check.due("of no rules", RANGE, x.ruleHolds(0));
        LouvreCraft full = Twins.full();
        Check.due("the last of 12", 1, full.ruleHolds(11));
        Check.due("behind it", RANGE, full.ruleHolds(12));
    }

    /** Promise 56: "if its action would be done in the present state", which is told and not done. */
    static void ruleHoldsDoesNothing() {
        LouvreCraft x = craft();
        Check.fine(x, 3, "load 0=9; heater 0 on; louvre 0 hold;");
        for (int rule = 0; rule < 3; rule++) {
            Check.due("ruleHolds", 1, x.ruleHolds(rule));
        }
        Check.due("load", 0, x.load(0));
        Check.due("heaterMode", 0, x.heaterMode(0));
        Check.due("isHeld", 0, x.isHeld(0));
    }

    /** Promise 57: "false (and nothing changes) if slot is out of range". */
    static void saveRange() {
        Twins.range("save", 0, 1, 0, (x, value) -> x.save(value) ? 1 : 0);
    }

    /** Promise 58: "false (and nothing changes) if slot is out of range". */
    static void restoreRange() {
        Twins.range("restore", 0, 1, 0, (x, value) -> {
            if (value == 1) {
                x.save(1);
            }
            return x.restore(value) ? 1 : 0;
        });
    }

    /** Promise 58: "or nothing is saved there". */
    static void restoreOfNothing() {
        Twins.refused("restore(1)", 0, x -> x.restore(1) ? 1 : 0);
        LouvreCraft x = new LouvreCraft();
        x.save(1);
        Check.due("restore(0)", false, x.restore(0));
        Check.due("restore(1)", true, x.restore(1));
        x.save(-1);
        x.save(2);
        Check.due("restore(0)", false, x.restore(0));
        Check.due("restore(-1)", false, x.restore(-1));
        Check.due("restore(2)", false, x.restore(2));
    }

    /** Promises 57 and 58: a state that is saved is replaced by the next one, and stays when it is brought back. */
    static void replacedAndKept() {
        LouvreCraft x = craft();
        x.save(0);
        x.save(1);
        x.setTemperature(0, 1);
        x.save(0);
        x.setTemperature(0, 2);
        for (int again = 0; again < 3; again++) {
            Check.due("restore(0)", true, x.restore(0));
            Check.due("the later one", 1, x.temperature(0));
            x.setTemperature(0, 3);
            Check.due("restore(1)", true, x.restore(1));
            Check.due("the other slot", 1234, x.temperature(0));
            x.run(5);
        }
        Check.due("a state saves no states", true, x.restore(0));
        Check.due("restore(1)", true, x.restore(1));
        Check.due("the other slot still", 1234, x.temperature(0));
    }

    /** Promise 57: "everything except the text buffer, the error code and the error position". */
    static void whatIsNotSaved() {
        LouvreCraft x = craft();
        Check.error(x, 2, 7, "heater 9 on;");
        Check.write(x, "load");
        x.save(0);
        x.truncateText(0);
        Check.error(x, 1, 5, "load ?");
        Check.write(x, "load 0=7;");
        x.restore(0);
        Check.due("errorCode", 1, x.errorCode());
        Check.due("errorPosition", 5, x.errorPosition());
        Check.due("the text is that of before", 1, x.loadRules());
        x.restore(0);
        Check.due("errorCode stays", 0, x.errorCode());
        Check.due("errorPosition stays", -1, x.errorPosition());
        Check.due("no text comes back", RANGE, x.truncateText(1));
        Check.due("the rules are those of the state", 0, x.ruleCount());
    }

    /** Promises 57 and 58: the state of a new object brings back one without anything. */
    static void stateOfANewObject() {
        LouvreCraft x = new LouvreCraft();
        x.save(1);
        x.addNode(1000, 5, 0, 0, 0);
        x.addNode(1000, 9, 0, 0, 0);
        x.link(0, 1, 3);
        x.addLouvre(0, 1, 0, 1, 1);
        x.addHeater(0, 1, 1000, 1000, 0);
        x.setOrbit(7, 1, 2, 3, 4, 5);
        x.setPower(1, 2, 3, 3);
        x.setStepLength(2);
        x.setLimits(0, 100, 200);
        Check.fine(x, 1, DONE);
        x.run(9);
        Check.due("restore", true, x.restore(1));
        Twins.alike("restored", x, new LouvreCraft());
        Check.due("step length", 10, x.setStepLength(10));
        x.addNode(100000, 0, 10, 10, 0);
        Check.due("the first orbit", 1361, x.absorbedHeat(0));
        Check.due("first limits", 200000, x.margin(0));
        x.run(600);
        Check.due("the first period", 0, x.phase());
    }
}
