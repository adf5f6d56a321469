/** What the tests share: counting wrong answers, and writing a text into the text buffer. */
final class Check {
    private static int checks = 0;
    private static int wrong = 0;

    private Check() {
    }

    static void due(String call, long want, long got) {
        checks++;
        if (got != want) {
            wrong++;
            System.out.println(call + " answered " + got + ", due is " + want);
        }
    }

    static void due(String call, boolean want, boolean got) {
        due(call, want ? 1 : 0, got ? 1 : 0);
    }

    /** Appends the text to an empty buffer, as appendText() takes four bytes at a time. */
    static void write(LouvreCraft x, String text) {
        for (int i = 0; i < text.length(); i += 4) {
            int fourBytes = 0;
            for (int k = i; k < i + 4; k++) {
                fourBytes = fourBytes << 8 | (k < text.length() ? text.charAt(k) : 0);
            }
            x.appendText(fourBytes);
        }
        due("truncateText(" + text.length() + ")", text.length(), x.truncateText(text.length()));
    }

    static int load(LouvreCraft x, String text) {
        write(x, text);
        return x.loadRules();
    }

    static void fine(LouvreCraft x, int rules, String text) {
        due("loadRules() of " + text, rules, load(x, text));
        due("errorCode() of " + text, 0, x.errorCode());
        due("errorPosition() of " + text, LouvreCraft.NONE, x.errorPosition());
    }

    static void error(LouvreCraft x, int code, int position, String text) {
        due("loadRules() of " + text, LouvreCraft.SYNTAX_ERROR, load(x, text));
        due("errorCode() of " + text, code, x.errorCode());
        due("errorPosition() of " + text, position, x.errorPosition());
    }

    static void finish() {
        System.out.println(checks + " answers, " + wrong + " of them wrong");
        if (wrong != 0 || checks == 0) {
            System.exit(1);
        }
    }
}
