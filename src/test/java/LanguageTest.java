import java.io.IOException;
import java.lang.reflect.Constructor;
import java.lang.reflect.Field;
import java.lang.reflect.Method;
import java.lang.reflect.Modifier;
import java.nio.file.Files;
import java.nio.file.Path;
import java.util.Set;
import java.util.TreeSet;
import java.util.regex.Matcher;
import java.util.regex.Pattern;

/** What of ../shared/LANGUAGE.md can be looked at from outside, and that calls make no objects and end soon. */
public final class LanguageTest {
    private static final String FACE = "NONE NO_SUCH_PART OUT_OF_RANGE FULL SYNTAX_ERROR addNode nodeCount setLimits setTemperature "
            + "setLoad link conductance linkCount addLouvre addHeater louvreCount opening target isHeld heaterCount heaterState "
            + "heaterMode setMode setOrbit setPower setStepLength run time phase isSunlit charge usedPower temperature load "
            + "absorbedHeat emittedHeat conductedHeat netHeat margin resetRecords lowest highest violations firstViolation "
            + "violatorCount violator shedCount energy stepsToViolation extremeAhead leastHeaterPower leastLouvreArea settlingOrbit "
            + "appendText truncateText loadRules errorCode errorPosition ruleCount ruleHolds save restore";

    public static void main(String[] args) throws IOException {
        face();
        words();
        shape();
        objects();
        Check.finish();
    }

    static void face() {
        Set<String> names = new TreeSet<>();
        for (Method method : LouvreCraft.class.getDeclaredMethods()) {
            if (!Modifier.isPrivate(method.getModifiers())) {
                names.add(method.getName());
            }
        }
        for (Field field : LouvreCraft.class.getDeclaredFields()) {
            if (!Modifier.isPrivate(field.getModifiers())) {
                names.add(field.getName());
            }
        }
        Set<String> face = new TreeSet<>(Set.of(FACE.split(" ")));
        Check.due("the face " + names, true, names.equals(face));
        int constructors = 0;
        for (Constructor<?> constructor : LouvreCraft.class.getDeclaredConstructors()) {
            constructors += constructor.getParameterCount() == 0 && Modifier.isPublic(constructor.getModifiers()) ? 1 : 100;
        }
        Check.due("constructors", 1, constructors);
        Check.due("final", true, Modifier.isFinal(LouvreCraft.class.getModifiers()));
        for (Class<?> inside : LouvreCraft.class.getDeclaredClasses()) {
            Check.due(inside + " is static", true, Modifier.isStatic(inside.getModifiers()));
            for (Method method : inside.getDeclaredMethods()) {
                Check.due(method + " bears a name of the face", false, face.contains(method.getName()));
            }
        }
    }

    private static String code() throws IOException {
        String text = Files.readString(Path.of("src/main/java/LouvreCraft.java"));
        return text.replaceAll("(?s)/\\*.*?\\*/", "").replaceAll("//[^\n]*", "").replaceAll("\"[^\"]*\"", "\"\"");
    }

    static void words() throws IOException {
        String code = code();
        String forbidden = "\\b(throw|throws|try|catch|synchronized|assert|import|package|native|volatile|transient|yield|var|enum"
                + "|Object|Thread|System\\.(?!arraycopy)\\w*|Random|equals|hashCode|toString|instanceof|protected)\\b|->|::|@|\\+ \"\"|\"\" \\+";
        Matcher matcher = Pattern.compile(forbidden).matcher(code);
        while (matcher.find()) {
            Check.due("the word " + matcher.group(), false, true);
        }
        Check.due("public classes", 1, code.split("public final class").length - 1);
        Matcher statics = Pattern.compile("\n    (private|public) static (?!final)(?!.*\\()").matcher(code);
        Check.due("a static field that is not final", false, statics.find());
        Check.due("signs above 126", false, Pattern.compile("[^\n -~]").matcher(code).find());
    }

    /** Methods of some sixty lines, some twelve classes, some twenty fields, seven parameters. */
    static void shape() throws IOException {
        Check.due("classes", true, LouvreCraft.class.getDeclaredClasses().length <= 12);
        for (Class<?> inside : LouvreCraft.class.getDeclaredClasses()) {
            Check.due("fields of " + inside, true, inside.getDeclaredFields().length <= 20);
        }
        String[] lines = code().split("\n");
        int start = 0;
        for (int i = 0; i < lines.length; i++) {
            if (lines[i].matches("    (    )?[a-z].*\\{")) {
                start = i;
            } else if (lines[i].matches("    (    )?\\}")) {
                Check.due("lines of " + lines[start].trim(), true, i - start <= 60 || lines[start].contains("class "));
            }
        }
    }

    /** The dearest calls, 500 times: what they make is measured, with room for what the Java machine makes itself. */
    static void objects() {
        LouvreCraft x = new LouvreCraft();
        for (int node = 0; node < 12; node++) {
            x.addNode(1000, 20000, 100, 50, 3000);
            x.link(node, node / 2, 500);
        }
        for (int part = 0; part < 8; part++) {
            x.addHeater(part, 1000, 10000, 30000, part);
            x.addLouvre(part, 300, 10000, 30000, 100);
        }
        String rules = "when temp 0 * 2 > 3 + 4 and not sun = 1 or used < (charge + 4): load 0 = -(temp 1 / 7) + phase;";
        ThreadMeter meter = new ThreadMeter();
        long before = meter.bytes();
        for (int i = 0; i < 100; i++) {
            x.appendText(0x20202020);
        }
        x.loadRules();
        Check.load(x, rules);
        for (int i = 0; i < 100; i++) {
            x.leastHeaterPower(0, 200);
            x.leastLouvreArea(0, 200);
            x.settlingOrbit(0, 6);
            x.extremeAhead(0, 2000, true);
            x.stepsToViolation(-1, 2000);
            x.save(0);
            x.restore(0);
            x.run(100);
            x.netHeat(0);
            x.ruleHolds(0);
        }
        long made = meter.bytes() - before;
        Check.due("few objects were made, " + made + " bytes", true, made < 200000);
    }

    private static final class ThreadMeter {
        private final java.lang.management.ThreadMXBean bean = java.lang.management.ManagementFactory.getThreadMXBean();

        /** 0 where this Java machine does not tell. */
        long bytes() {
            if (bean instanceof com.sun.management.ThreadMXBean) {
                return ((com.sun.management.ThreadMXBean) bean).getThreadAllocatedBytes(Thread.currentThread().getId());
            }
            return 0;
        }
    }
}
