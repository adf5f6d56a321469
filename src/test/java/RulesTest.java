/** Promises 50 to 56: the text, its errors, and the rules. */
public final class RulesTest {
    private static final int RANGE = LouvreCraft.OUT_OF_RANGE;
    private static final int FULL = LouvreCraft.FULL;

    public static void main(String[] args) {
        appendText();
        truncateText();
        loadRules();
        texts();
        notAllowed();
        wrongNumbers();
        tooManyRules();
        tooDeep();
        ruleHolds();
        values();
        sums();
        limitedSums();
        tests();
        actions();
        order();
        Check.finish();
    }

    /** Two nodes, one louvre, three heaters. */
    private static LouvreCraft craft() {
        LouvreCraft x = new LouvreCraft();
        x.addNode(100000, 1234, 0, 0, 0);
        x.addNode(100000, -567, 0, 0, 0);
        x.addLouvre(0, 0, 0, 10000, 1000);
        for (int heater = 0; heater < 3; heater++) {
            x.addHeater(1, 100 << heater, -200000, -200000, 0);
        }
        return x;
    }

    private static void holds(LouvreCraft x, boolean want, String test) {
        Check.fine(x, 1, "when " + test + ": heater 0 off;");
        Check.due(test, want ? 1 : 0, x.ruleHolds(0));
    }

    private static void value(LouvreCraft x, long want, String sum) {
        Check.fine(x, 1, "when " + sum + " = " + (want < 0 ? "0 - " + -want : "" + want) + ": heater 0 off;");
        Check.due(sum + " = " + want, 1, x.ruleHolds(0));
    }

    private static String repeat(String text, int times) {
        StringBuilder all = new StringBuilder();
        for (int i = 0; i < times; i++) {
            all.append(text);
        }
        return all.toString();
    }

    /** Promise 50. */
    static void appendText() {
        LouvreCraft x = craft();
        for (int bytes = 4; bytes <= 500; bytes += 4) {
            Check.due("appendText", bytes, x.appendText(0x20202020));
        }
        Check.due("501st byte", FULL, x.appendText(0x20202020));
        Check.due("499 bytes", 499, x.truncateText(499));
        Check.due("503rd byte", FULL, x.appendText(0x20202020));
        Check.due("497 bytes", 497, x.truncateText(497));
        Check.due("501st byte", FULL, x.appendText(0x20202020));
        Check.due("496 bytes", 496, x.truncateText(496));
        Check.due("500th byte", 500, x.appendText(0x20202020));
        Check.due("blanks are no rules", 0, x.loadRules());
        // The highest byte comes first, and bytes above 127 are kept as they are.
        x.appendText(0x6c6f6164);
        x.appendText(0xff20203b);
        Check.due("a byte of no token", LouvreCraft.SYNTAX_ERROR, x.loadRules());
        Check.due("its position", 4, x.errorPosition());
        x.appendText(0x80000000);
        Check.due("the first byte", LouvreCraft.SYNTAX_ERROR, x.loadRules());
        Check.due("its position", 0, x.errorPosition());
    }

    /** Promise 51. */
    static void truncateText() {
        LouvreCraft x = craft();
        Check.due("empty", 0, x.truncateText(0));
        Check.due("longer", RANGE, x.truncateText(1));
        Check.due("-1", RANGE, x.truncateText(-1));
        x.appendText('h' << 24 | 'e' << 16 | 'a' << 8 | 't');
        Check.due("as long as it is", 4, x.truncateText(4));
        Check.due("longer", RANGE, x.truncateText(5));
        Check.due("shorter", 3, x.truncateText(3));
        Check.due("as it was", RANGE, x.truncateText(4));
        Check.due("next", 7, x.appendText('t' << 24 | 'e' << 16 | 'r' << 8 | ' '));
        Check.due("next", 11, x.appendText('0' << 24 | 'o' << 16 | 'n' << 8 | ';'));
        Check.due("'heater 0on;' without the cut byte", 1, x.loadRules());
    }

    /** Promises 52 to 55. */
    static void loadRules() {
        LouvreCraft x = craft();
        Check.due("errorCode", 0, x.errorCode());
        Check.due("errorPosition", -1, x.errorPosition());
        Check.due("ruleCount", 0, x.ruleCount());
        Check.fine(x, 0, "");
        Check.fine(x, 2, "heater 0 on; heater 1 off;");
        Check.due("ruleCount", 2, x.ruleCount());
        Check.due("the text is empty", RANGE, x.truncateText(1));
        Check.error(x, 1, 12, "heater 2 on;;");
        Check.due("the text is empty", RANGE, x.truncateText(1));
        Check.due("the previous rules stay", 2, x.ruleCount());
        x.run(1);
        Check.due("heater 0", 1, x.heaterMode(0));
        Check.due("heater 1", 2, x.heaterMode(1));
        Check.due("heater 2", 0, x.heaterMode(2));
        Check.due("the error stays until the next text", 1, x.errorCode());
        Check.due("its position too", 12, x.errorPosition());
        Check.fine(x, 1, "heater 2 on;");
        Check.due("replaced", 1, x.ruleCount());
        x.setMode(0, 0);
        x.run(1);
        Check.due("the previous rules are gone", 0, x.heaterMode(0));
        Check.due("the new one works", 1, x.heaterMode(2));
        Check.fine(x, 0, " \n ");
        Check.due("none", 0, x.ruleCount());
        Check.fine(x, 12, repeat("heater 1 auto;", 12));
        Check.due("twelve", 12, x.ruleCount());
    }

    static void texts() {
        LouvreCraft x = craft();
        Check.fine(x, 1, "  heater\n0\n on ; ");
        Check.fine(x, 1, "heater0on;");
        Check.fine(x, 1, "when1=1:load0=1;");
        Check.fine(x, 1, "when sun=1:load0=phase;");
        Check.fine(x, 2, "louvre 0 hold;louvre 0 free;");
        Check.fine(x, 1, "load 0 = 000000000000000000000000000000000000000999999;");
        Check.fine(x, 1, "heater 00000002 auto;");
        Check.fine(x, 1, "when not temp 0 < open 0 and state 2 > sun or phase = charge and not used=1:heater 0 on;");
        Check.fine(x, 1, "load 1 = -(-temp 1 + 2) * -3 / (4 - - - 5);");
        String longest = "load 0=1" + repeat("+1", 245) + " ;";
        Check.due("500 bytes", 500, longest.length());
        Check.fine(x, 1, longest);
        x.run(1);
        Check.due("246 ones", 246, x.load(0));
    }

    /** Error 1: a token that is not allowed, a byte of no token, or a text that ends too early. */
    static void notAllowed() {
        LouvreCraft x = craft();
        String whole = "when not 1 + temp 0 < ( 2 ) * - 3 and 1 = 1 : load 0 = 5 ;";
        int[] starts = {0, 5, 9, 11, 13, 18, 20, 22, 24, 26, 28, 30, 32, 34, 38, 40, 42, 44, 46, 51, 53, 55, 57};
        for (int i = 1; i < starts.length; i++) {
            Check.error(x, 1, starts[i], whole.substring(0, starts[i]));
            Check.error(x, 1, starts[i], whole.substring(0, starts[i]) + "?" + whole.substring(starts[i]));
            Check.error(x, 1, starts[i], whole.substring(0, starts[i]) + "when " + whole.substring(starts[i]));
        }
        Check.fine(x, 1, whole);
        Check.error(x, 1, 0, ";");
        Check.error(x, 1, 0, repeat(";", 500));
        Check.error(x, 1, 0, repeat("\0", 3));
        Check.error(x, 1, 12, "heater 0 on;\0");
        Check.error(x, 1, 9, "heater 0 onz;");
        Check.error(x, 1, 9, "heater 0 aon;");
        Check.error(x, 1, 11, "heater 0 on{;");
        Check.error(x, 1, 11, "heater 0 on`;");
        words(x);
        Check.error(x, 1, 0, "Heater 0 on;");
        Check.error(x, 1, 0, "\theater 0 on;");
        Check.error(x, 1, 8, "heater 0\ron;");
        Check.error(x, 1, 0, "heaters 0 on;");
        Check.error(x, 1, 0, "heate 0 on;");
        Check.error(x, 1, 0, "whentemp 0 = 1: heater 0 on;");
        Check.error(x, 1, 7, "heater on;");
        Check.error(x, 1, 7, "heater -1 on;");
        Check.error(x, 1, 7, "heater (1) on;");
        Check.error(x, 1, 9, "heater 0 hold;");
        Check.error(x, 1, 9, "heater 0 = 1;");
        Check.error(x, 1, 9, "louvre 0 on;");
        Check.error(x, 1, 9, "louvre 0 auto;");
        Check.error(x, 1, 7, "load 0 on;");
        Check.error(x, 1, 12, "heater 0 on heater 1 on;");
        Check.error(x, 1, 11, "heater 0 on");
        Check.error(x, 1, 13, "heater 0 on  ");
        Check.error(x, 1, 5, "when : heater 0 on;");
        Check.error(x, 1, 11, "when temp 0: heater 0 on;");
        Check.error(x, 1, 11, "when 1 = 1 = 1: heater 0 on;");
        Check.error(x, 1, 5, "when *1 = 1: heater 0 on;");
        Check.error(x, 1, 8, "when (1 = 1): heater 0 on;");
        Check.error(x, 1, 9, "when not not 1 = 1: heater 0 on;");
        Check.error(x, 1, 11, "when 1 < 2 not 1 = 1: heater 0 on;");
        Check.error(x, 1, 11, "when 1 < 2 heater 0 on;");
        Check.error(x, 1, 9, "load 0 = on;");
        Check.error(x, 1, 9, "load 0 = + 1;");
        Check.error(x, 1, 11, "load 0 = 1 2;");
        Check.error(x, 1, 11, "load 0 = 1 (2);");
        Check.error(x, 1, 11, "load 0 = 1 temp 0;");
        Check.error(x, 1, 10, "load 0 = ();");
        Check.error(x, 1, 11, "load 0 = (1;");
        Check.error(x, 1, 10, "load 0 = 1);");
        Check.error(x, 1, 10, "load 0 = -;");
        Check.error(x, 1, 11, "load 0 = --;");
        Check.error(x, 1, 13, "load 0 = temp;");
        Check.error(x, 1, 9, "load 0 = not 1;");
        Check.error(x, 1, 5, "when <: heater 0 on;");
        Check.error(x, 1, 11, "load 0 = 1 1000000;");
    }

    /** A word with another first or last letter, or with one more or less, is no word. */
    private static void words(LouvreCraft x) {
        String all = "when not temp 0 < open 0 and state 2 > sun or phase = charge and not used = 1 : heater 0 on ; "
                + "heater 0 off ; heater 0 auto ; louvre 0 hold ; louvre 0 free ; load 0 = 1 ;";
        Check.fine(x, 6, all);
        int start = 0;
        for (String token : all.split(" ")) {
            if (Character.isLetter(token.charAt(0))) {
                String before = all.substring(0, start);
                String after = all.substring(start + token.length());
                Check.error(x, 1, start, before + "q" + token.substring(1) + after);
                Check.error(x, 1, start, before + token.substring(0, token.length() - 1) + "q" + after);
                Check.error(x, 1, start, before + token + "q" + after);
                Check.error(x, 1, start, before + token.substring(1) + after);
                Check.error(x, 1, start, before + token.substring(0, token.length() - 1) + after);
                Check.error(x, 1, start, before + token.toUpperCase() + after);
            }
            start += token.length() + 1;
        }
    }

    /** Error 2: numbers that are too great, and parts that are not there. */
    static void wrongNumbers() {
        LouvreCraft x = craft();
        Check.error(x, 2, 9, "load 0 = 1000000;");
        Check.error(x, 2, 9, "load 0 = 99999999999999999999999999999999999999;");
        Check.error(x, 2, 9, "load 0 = 4294967296;");
        Check.error(x, 2, 9, "load 0 = 0001000000;");
        Check.error(x, 2, 5, "load 2 = 1;");
        Check.error(x, 2, 5, "load 4294967296 = 1;");
        Check.error(x, 2, 7, "louvre 1 hold;");
        Check.error(x, 2, 7, "heater 3 on;");
        Check.error(x, 2, 7, "heater 1000000 on;");
        Check.error(x, 2, 14, "load 0 = temp 2;");
        Check.error(x, 2, 14, "load 0 = open 1;");
        Check.error(x, 2, 15, "load 0 = state 3;");
        Check.error(x, 2, 10, "when 1 < (1000000): heater 0 on;");
        Check.fine(x, 1, "load 1 = temp 1 + open 0 + state 2 + 999999;");
        LouvreCraft empty = new LouvreCraft();
        Check.error(empty, 2, 5, "load 0 = 1;");
        Check.error(empty, 2, 7, "louvre 0 hold;");
        Check.error(empty, 2, 7, "heater 0 on;");
    }

    /** Error 3: a 13th rule. */
    static void tooManyRules() {
        LouvreCraft x = craft();
        String twelve = repeat("heater 1 auto;", 12);
        Check.fine(x, 12, twelve + " \n");
        for (String word : new String[] {"when", "heater", "louvre", "load"}) {
            Check.error(x, 3, 169, twelve + " " + word);
        }
        for (String word : new String[] {"temp", "on", ";", "1", "whens", "?", "(", "-", "1000000"}) {
            Check.error(x, 1, 169, twelve + " " + word);
        }
        Check.error(x, 1, 167, twelve.substring(0, 167));
        Check.due("twelve rules stay", 12, x.ruleCount());
    }

    /** Error 4: more than 20 levels. */
    static void tooDeep() {
        LouvreCraft x = craft();
        Check.fine(x, 1, "load 0 = " + repeat("(", 20) + "7" + repeat(")", 20) + ";");
        x.run(1);
        Check.due("load", 7, x.load(0));
        Check.error(x, 4, 29, "load 0 = " + repeat("(", 21) + "7" + repeat(")", 21) + ";");
        Check.fine(x, 1, "load 0 = " + repeat("-", 20) + "8;");
        x.run(1);
        Check.due("load", 8, x.load(0));
        Check.error(x, 4, 29, "load 0 = " + repeat("-", 21) + "8;");
        Check.fine(x, 1, "load 0 = " + repeat("-(", 10) + "9" + repeat(")", 10) + ";");
        Check.error(x, 4, 29, "load 0 = " + repeat("-(", 10) + "-9" + repeat(")", 10) + ";");
        Check.error(x, 4, 29, "load 0 = " + repeat("-(", 10) + "(9" + repeat(")", 11) + ";");
        // Each of the two sums of a comparison has levels of its own.
        String twenty = repeat("(", 20) + "7" + repeat(")", 20);
        Check.fine(x, 1, "when " + twenty + "=" + twenty + "and" + twenty + "=" + twenty + ":load 0=1;");
        Check.error(x, 4, 25, "when (" + twenty + ")=" + twenty + ":load 0=1;");
        Check.error(x, 4, 67, "when " + twenty + "=(" + twenty + "):load 0=1;");
        // A sign between two factors is no level, and levels end with their factors.
        Check.fine(x, 1, "load 0 = " + repeat("(", 20) + "7 - 3" + repeat(")", 20) + " - " + repeat("-", 20) + "1;");
        Check.error(x, 1, 30, "load 0 = " + repeat("(", 20) + "7(" + repeat(")", 20) + ";");
        Check.error(x, 4, 49, "load 0 = " + repeat("(1+", 10) + repeat("-", 3) + repeat("-(", 4) + "(1;");
        // The deepest stack of values: each level waits for a sum and a product.
        String deep = "when 1=" + repeat("1+1*(", 20) + "1+1*1" + repeat(")", 20) + ": load 0 = 4;";
        Check.fine(x, 1, deep);
        Check.due("22 is not 1", 0, x.ruleHolds(0));
        Check.fine(x, 1, deep.replace("when 1=", "when 22="));
        Check.due("22 is 22", 1, x.ruleHolds(0));
    }

    /** Promise 56. */
    static void ruleHolds() {
        LouvreCraft x = craft();
        Check.due("no rule", RANGE, x.ruleHolds(0));
        Check.fine(x, 3, "heater 0 on; when temp 0 > 2000: heater 0 on; when temp 0 < 2000: heater 0 on;");
        Check.due("-1", RANGE, x.ruleHolds(-1));
        Check.due("3", RANGE, x.ruleHolds(3));
        Check.due("without a test", 1, x.ruleHolds(0));
        Check.due("does not hold", 0, x.ruleHolds(1));
        Check.due("holds", 1, x.ruleHolds(2));
        x.setTemperature(0, 2001);
        Check.due("holds now", 1, x.ruleHolds(1));
        Check.due("does not hold now", 0, x.ruleHolds(2));
        Check.due("nothing is done", 0, x.heaterMode(0));
        Check.fine(x, 0, "");
        Check.due("no rule any more", RANGE, x.ruleHolds(0));
    }

    static void values() {
        LouvreCraft x = craft();
        x.setOrbit(100, 10, 30, 0, 0, 0);
        x.setMode(0, 1);
        x.setMode(1, 1);
        x.setPower(150, 0, 100000, 0);
        x.run(1);
        value(x, 1234, "temp 0");
        value(x, -567, "temp 1");
        value(x, 123, "open 0");
        value(x, 1, "state 0");
        value(x, 2, "state 1");
        value(x, 0, "state 2");
        value(x, 0, "sun");
        value(x, 10, "phase");
        value(x, 500, "charge");
        value(x, 100, "used");
        x.run(2);
        value(x, 1, "sun");
        value(x, 30, "phase");
        x.run(8);
        value(x, 10, "phase");
    }

    static void sums() {
        LouvreCraft x = craft();
        value(x, 7, "1 + 2 * 3");
        value(x, 9, "(1 + 2) * 3");
        value(x, 4, "10 - 3 - 3");
        value(x, 10, "10 - (3 - 3)");
        value(x, 5, "100 / 10 / 2");
        value(x, 20, "100 / (10 / 2)");
        value(x, 6, "8 / 4 * 3");
        value(x, 8, "8 * 4 / 4");
        value(x, 2, "8 * (3 / 4) + 2");
        value(x, -3, "-3");
        value(x, 3, "--3");
        value(x, -1, "2 + -3");
        value(x, -6, "2 * -3");
        value(x, 5, "2 - -3");
        value(x, -1, "-3 + 2");
        value(x, -6, "-3 * 2");
        value(x, -2, "-7 / 3");
        value(x, -2, "7 / -3");
        value(x, 2, "-7 / -3");
        value(x, 0, "5 / 0");
        value(x, 1, "1 + 5 / (2 - 2)");
        value(x, 0, "-5 / 0");
        value(x, -3, "-(1 + 2)");
        value(x, 2468, "temp 0 + temp 0");
        value(x, 667, "temp 0+temp 1");
        value(x, 999998, "999999 - 1");
    }

    /** Every operation is limited to a million millions. */
    static void limitedSums() {
        LouvreCraft x = craft();
        String most = "(999999 * 999999 * 2)";
        String root = "(500000 * 2)";
        value(x, 0, most + " - " + root + " * " + root);
        value(x, 0, most + " * " + most + " - " + most);
        value(x, 0, most + " + 1 - " + most);
        value(x, 0, most + " + " + most + " - " + most);
        value(x, 1, "1 - " + most + " + " + most);
        value(x, 0, "0 - " + most + " - 1 + " + most);
        value(x, 0, "-" + most + " * " + most + " + " + most);
        value(x, 0, most + " * -" + most + " + " + most);
        value(x, 0, "-" + most + " * -" + most + " - " + most);
        value(x, -1, "-" + most + " + (" + most + " - 1)");
        value(x, 999999, root + " * " + root + " - 999999 * 999999 - " + root);
        value(x, 0, root + " * (500000 * 2 + 1) - " + most);
        value(x, 999999, "999999 * " + root + " / " + root);
        value(x, 1, "(" + root + " - 1) * " + root + " / 999999 / " + root);
        value(x, 0, most + " * 0");
        value(x, 0, "0 * " + most);
    }

    static void tests() {
        LouvreCraft x = craft();
        holds(x, true, "1 < 2");
        holds(x, false, "2 < 2");
        holds(x, false, "3 < 2");
        holds(x, false, "1 > 2");
        holds(x, false, "2 > 2");
        holds(x, true, "3 > 2");
        holds(x, false, "1 = 2");
        holds(x, true, "2 = 2");
        holds(x, false, "not 1 < 2");
        holds(x, false, "not 3 > 2");
        holds(x, false, "not 2 = 2");
        holds(x, true, "not 2 = 3");
        holds(x, true, repeat("1=1and", 70) + "1=1");
        holds(x, false, repeat("1=1and", 70) + "1=2");
        holds(x, false, repeat("1=2or", 80) + "1=2");
        holds(x, true, repeat("1=2or", 80) + "1=1");
        holds(x, true, repeat("1=2and1=1or", 40) + "1=1");
        holds(x, true, "not 2 < 2");
        holds(x, true, "not 1 + 1 = 3");
        String[] comparisons = {"1 = 0", "1 = 1"};
        for (int bits = 0; bits < 16; bits++) {
            boolean a = (bits & 1) != 0;
            boolean b = (bits & 2) != 0;
            boolean c = (bits & 4) != 0;
            boolean d = (bits & 8) != 0;
            String p = comparisons[a ? 1 : 0];
            String q = comparisons[b ? 1 : 0];
            String r = comparisons[c ? 1 : 0];
            String s = comparisons[d ? 1 : 0];
            holds(x, a && b || c && d, p + " and " + q + " or " + r + " and " + s);
            holds(x, a || b && c || d, p + " or " + q + " and " + r + " or " + s);
            holds(x, a && b && c && d, p + " and " + q + " and " + r + " and " + s);
            holds(x, a || b || c || d, p + " or " + q + " or " + r + " or " + s);
            holds(x, !a && b && c || !d, "not " + p + " and " + q + " and " + r + " or not " + s);
            holds(x, a || !b && !c && d, p + " or not " + q + " and not " + r + " and " + s);
        }
    }

    static void actions() {
        LouvreCraft x = craft();
        Check.fine(x, 5, "heater 0 on; heater 1 off; heater 2 auto; louvre 0 hold; load 1 = 40 + 2;");
        x.setMode(2, 1);
        x.run(1);
        Check.due("on", 1, x.heaterMode(0));
        Check.due("off", 2, x.heaterMode(1));
        Check.due("auto", 0, x.heaterMode(2));
        Check.due("held", 1, x.isHeld(0));
        Check.due("load", 42, x.load(1));
        Check.due("other load", 0, x.load(0));
        Check.fine(x, 4, "when 1 = 2: heater 0 off; louvre 0 free; load 0 = -1; load 1 = 999999 + 2;");
        x.setLoad(0, 5);
        x.run(1);
        Check.due("not done", 1, x.heaterMode(0));
        Check.due("free", 0, x.isHeld(0));
        Check.due("not below 0", 0, x.load(0));
        Check.due("not above 1000000", 1000000, x.load(1));
        Check.fine(x, 2, "load 0 = 999999; load 1 = 999999 + 1;");
        x.run(1);
        Check.due("below the most", 999999, x.load(0));
        Check.due("the most", 1000000, x.load(1));
    }

    /** Rules are carried out first, in their order, with the state before the step. */
    static void order() {
        LouvreCraft x = craft();
        x.setPower(100000, 0, 0, 0);
        Check.fine(x, 3, "load 0 = 1; load 0 = 2; when state 0 = 1: load 0 = 3;");
        x.setMode(0, 1);
        x.run(1);
        Check.due("the later rule, the state before", 2, x.load(0));
        x.run(1);
        Check.due("the state now", 3, x.load(0));
        Check.fine(x, 1, "heater 0 off;");
        x.run(1);
        Check.due("off in the same step", 0, x.heaterState(0));
        LouvreCraft y = new LouvreCraft();
        y.addNode(100, 0, 0, 0, 0);
        Check.fine(y, 1, "when phase < 20: load 0 = 100;");
        y.run(1);
        Check.due("heated in the same step", 10, y.temperature(0));
    }
}
