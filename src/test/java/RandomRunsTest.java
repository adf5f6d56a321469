import java.lang.reflect.Method;
import java.util.ArrayList;
import java.util.Arrays;
import java.util.List;

/**
 * Runs of 512 random calls, always the same ones, on LouvreCraft and on PlainModel, whose answers are to be the same.
 * After some calls everything that can be asked is asked, so that a change which no answer showed comes to light.
 * Each fifth run is a wild one: a craft with all parts that there can be, and arguments at the ends of their ranges.
 */
public final class RandomRunsTest {
    private static final String WORDS = "when or and not temp open state sun phase charge used heater louvre load on off auto hold free";
    private static final String SYMBOLS = "< > = + - * / ( ) : ; 0 1 2 3 7 999999 1000000 ? A whens";

    private long seed;
    private boolean isWild;
    private LouvreCraft craft;
    private PlainModel model;
    private final List<String> calls = new ArrayList<>();

    public static void main(String[] args) throws Exception {
        int runs = args.length > 0 ? Integer.parseInt(args[0]) : 1000;
        int first = args.length > 1 ? Integer.parseInt(args[1]) : 1;
        for (int run = first; run < first + runs; run++) {
            new RandomRunsTest().run(run);
        }
        Check.finish();
    }

    private int next(int below) {
        seed = seed * 6364136223846793005L + 1442695040888963407L;
        return (int) ((seed >>> 33) % below);
    }

    private int between(int least, int most) {
        return least + next(most - least + 1);
    }

    private void run(int number) throws Exception {
        seed = number * 7919L;
        next(2);
        craft = new LouvreCraft();
        model = new PlainModel();
        isWild = number % 5 == 0;
        if (isWild) {
            buildFull();
        } else {
            build();
        }
        List<Method> methods = new ArrayList<>();
        for (Method method : LouvreCraft.class.getDeclaredMethods()) {
            if (java.lang.reflect.Modifier.isPublic(method.getModifiers())) {
                methods.add(method);
            }
        }
        methods.sort((a, b) -> a.getName().compareTo(b.getName()));
        while (calls.size() < 512) {
            int kind = next(12);
            if (kind == 0) {
                text(rulesText());
            } else if (kind == 1) {
                text(spoiled(rulesText()));
            } else if (kind == 2) {
                call("run", between(1, 40));
            } else if (kind == 3 && calls.size() > 100 && calls.size() < 420) {
                askNodes();
            } else if (kind == 4) {
                plan();
            } else {
                Method method = methods.get(next(methods.size()));
                call(method.getName(), arguments(method));
            }
        }
    }

    private Object[] arguments(Method method) {
        Class<?>[] types = method.getParameterTypes();
        Object[] all = new Object[types.length];
        for (int i = 0; i < types.length; i++) {
            all[i] = types[i] == boolean.class ? (Object) (next(2) == 0) : (Object) argument(method.getName(), i);
        }
        if (method.getName().equals("run") || method.getName().endsWith("Ahead") || method.getName().equals("stepsToViolation")) {
            int steps = method.getName().equals("run") ? 0 : 1;
            all[steps] = next(8) == 0 ? all[steps] : (Object) between(1, 60);
        }
        return all;
    }

    /** Mostly an argument that is allowed, else an edge or anything. */
    private int argument(String name, int place) {
        if (isWild) {
            return wildArgument(name, place);
        }
        if (next(30) == 0) {
            int[] odd = {Integer.MIN_VALUE, Integer.MAX_VALUE, -1, 0, 1, 2, 12, 24, 60, 61, 200, 201, 1000, 1001, 2000, 2001,
                200000, 200001, -200000, -200001, 100000, 100001, 10000, 10001, 1000000, 1000001, 1000000000, 1000000001};
            return odd[next(odd.length)];
        }
        switch (name) {
            case "addNode":
                return new int[] {between(1, 3000), between(-60000, 80000), between(0, 400), between(0, 400), between(0, 20000)}[place];
            case "addLouvre":
                return new int[] {between(0, 6), between(0, 2000), between(-20000, 20000), between(20001, 60000), between(1, 400)}[place];
            case "addHeater":
                return new int[] {between(0, 6), between(0, 20000), between(-20000, 20000), between(20000, 60000), between(0, 9)}[place];
            case "setLimits":
                return new int[] {between(-1, 6), between(-100000, 20000), between(0, 100000)}[place];
            case "setTemperature":
                return new int[] {between(0, 6), between(-90000, 90000)}[place];
            case "setLoad":
                return new int[] {between(0, 6), between(0, 50000)}[place];
            case "link":
                return new int[] {between(0, 6), between(0, 6), next(3) == 0 ? 0 : between(1, 3000)}[place];
            case "setOrbit":
                return new int[] {between(50, 2000), between(0, 60), between(40, 100), between(0, 3000), between(0, 100), between(0, 3000)}[place];
            case "setPower": {
                int capacity = between(0, 3000000);
                return new int[] {between(0, 40000), between(0, 30000), capacity + 2000000, between(0, 2000000)}[place];
            }
            case "setStepLength":
                return between(1, 61);
            case "run":
            case "extremeAhead":
            case "stepsToViolation":
                return place == 0 ? between(-1, 6) : between(1, 2000);
            case "leastHeaterPower":
            case "leastLouvreArea":
                return place == 0 ? between(-1, 6) : between(1, 60);
            case "settlingOrbit":
                return place == 0 ? between(0, 9000) : between(1, 5);
            case "appendText":
                return next(Integer.MAX_VALUE) * 2 + next(2);
            case "truncateText":
                return between(-1, 8);
            case "save":
            case "restore":
                return between(-1, 2);
            case "energy":
                return between(-1, 3);
            case "setMode":
                return between(0, place == 0 ? model.heaterCount() : 2);
            default:
                return between(-1, 6);
        }
    }

    /** The least and the greatest argument of each place, two by two. */
    private static int[] ranges(String name) {
        switch (name) {
            case "addNode":
                return new int[] {1, 100000, -200000, 200000, 0, 10000, 0, 10000, 0, 1000000};
            case "addLouvre":
                return new int[] {0, 11, 0, 10000, -200000, 0, 1, 200000, 1, 1000};
            case "addHeater":
                return new int[] {0, 11, 0, 100000, -200000, 0, 0, 200000, 0, 9};
            case "setLimits":
                return new int[] {0, 11, -200000, 0, 0, 200000};
            case "setTemperature":
                return new int[] {0, 11, -200000, 200000};
            case "setLoad":
                return new int[] {0, 11, 0, 1000000};
            case "link":
                return new int[] {0, 11, 0, 11, 0, 100000};
            case "setOrbit":
                return new int[] {1, 100000, 0, 1, 1, 1, 0, 10000, 0, 100, 0, 10000};
            case "setPower":
                return new int[] {0, 1000000, 0, 1000000, 0, 1000000000, 0, 0};
            case "setStepLength":
                return new int[] {1, 60};
            case "run":
                return new int[] {1, 1000};
            case "extremeAhead":
            case "stepsToViolation":
                return new int[] {0, 11, 1, 2000};
            case "leastHeaterPower":
                return new int[] {0, 7, 1, 200};
            case "leastLouvreArea":
                return new int[] {0, 5, 1, 200};
            case "settlingOrbit":
                return new int[] {0, 100000, 1, 20};
            case "appendText":
                return new int[] {Integer.MIN_VALUE, Integer.MAX_VALUE};
            case "truncateText":
                return new int[] {0, 500};
            case "setMode":
                return new int[] {0, 7, 0, 2};
            case "energy":
                return new int[] {0, 2};
            case "save":
            case "restore":
                return new int[] {0, 1};
            default:
                return new int[] {0, 11, 0, 11};
        }
    }

    /** Anything within the range, or its ends, or seldom what is next to them. */
    private int wildArgument(String name, int place) {
        int[] ranges = ranges(name);
        int least = ranges[2 * place];
        int most = ranges[2 * place + 1];
        switch (next(25)) {
            case 0:
                return least - 1;
            case 1:
                return most + 1;
            case 2:
            case 3:
            case 4:
            case 5:
                return least;
            case 6:
            case 7:
            case 8:
            case 9:
                return most;
            default:
                return (int) (least + (seed >>> 20) % (1L + most - least));
        }
    }

    private void buildFull() throws Exception {
        int nodes = between(9, 12);
        for (int i = 0; i < nodes; i++) {
            call("addNode", wildArgument("addNode", 0), wildArgument("addNode", 1), wildArgument("addNode", 2),
                    wildArgument("addNode", 3), wildArgument("addNode", 4));
        }
        for (int i = 0; i < 26; i++) {
            call("link", next(12), next(12), wildArgument("link", 2));
        }
        for (int i = 0; i < 9; i++) {
            call("addHeater", next(nodes), wildArgument("addHeater", 1), wildArgument("addHeater", 2), wildArgument("addHeater", 3), next(10));
            call("addLouvre", next(nodes), wildArgument("addLouvre", 1), wildArgument("addLouvre", 2), wildArgument("addLouvre", 3),
                    wildArgument("addLouvre", 4));
        }
        call("setPower", wildArgument("setPower", 0), wildArgument("setPower", 1), 1000000000, between(0, 1000000000));
        call("setOrbit", between(2000, 100000), between(0, 1000), between(1000, 2000), 1361, 30, 240);
    }

    /** Asks for the least power or area with limits so near that some powers or areas are not enough. */
    private void plan() throws Exception {
        for (int node = 0; node < model.nodeCount(); node++) {
            int temperature = model.temperature(node);
            int low = Math.max(-200000, temperature - between(0, 5000));
            int high = Math.min(200000, temperature + between(0, 5000));
            call("setLimits", node, low, high);
        }
        boolean heater = next(2) == 0;
        int part = next(Math.max(1, heater ? model.heaterCount() : model.louvreCount()));
        if (heater && next(2) == 0) {
            call("setPower", between(0, 100000), between(0, 20000), 3000000, between(0, 3000000));
            call("setMode", part, 1);
        }
        call(heater ? "leastHeaterPower" : "leastLouvreArea", part, between(1, 12));
    }

    private void call(String name, Object... arguments) throws Exception {
        Class<?>[] types = new Class<?>[arguments.length];
        for (int i = 0; i < types.length; i++) {
            types[i] = arguments[i] instanceof Boolean ? boolean.class : int.class;
        }
        String text = name + Arrays.toString(arguments);
        calls.add(text);
        Object want = PlainModel.class.getMethod(name, types).invoke(model, arguments);
        Object got = LouvreCraft.class.getMethod(name, types).invoke(craft, arguments);
        if (!want.equals(got)) {
            System.out.println(calls);
            Check.due(text + " as call " + calls.size() + ", " + want + " and " + got, true, false);
            throw new IllegalStateException("a run with a difference is not gone on with");
        }
        Check.due(text, true, true);
    }

    private void build() throws Exception {
        int nodes = between(1, 5);
        for (int i = 0; i < nodes; i++) {
            call("addNode", between(50, 3000), between(-30000, 50000), between(0, 300), between(0, 300), between(0, 5000));
            if (i > 0) {
                call("link", i, next(i), between(1, 2000));
            }
            if (next(2) == 0) {
                call("setLimits", i, between(-60000, 0), between(20000, 90000));
            }
        }
        for (int i = next(4); i > 0; i--) {
            call("addHeater", next(nodes), between(0, 9000), between(-20000, 10000), between(10000, 40000), between(0, 9));
        }
        for (int i = next(3); i > 0; i--) {
            call("addLouvre", next(nodes), between(0, 900), between(-20000, 10000), between(10001, 40000), between(1, 300));
        }
        int period = between(60, 900);
        int from = next(period);
        call("setOrbit", period, from, between(from, period), between(0, 2000), between(0, 60), between(0, 400));
        call("setPower", between(0, 20000), between(0, 3000), 3000000, between(0, 3000000));
    }

    private void askNodes() throws Exception {
        String[] names = {"temperature", "load", "margin", "lowest", "highest", "violations", "firstViolation", "absorbedHeat",
            "emittedHeat", "conductedHeat", "netHeat", "opening", "isHeld", "heaterState", "heaterMode", "violator", "energy", "ruleHolds"};
        int part = next(6);
        for (String name : names) {
            call(name, part);
        }
    }

    private void text(String text) throws Exception {
        if (calls.size() + text.length() / 4 > 480) {
            return;
        }
        call("truncateText", 0);
        for (int i = 0; i < text.length(); i += 4) {
            int fourBytes = 0;
            for (int k = i; k < i + 4; k++) {
                fourBytes = fourBytes << 8 | (k < text.length() ? text.charAt(k) : ' ');
            }
            call("appendText", fourBytes);
        }
        call("loadRules");
        call("errorCode");
        call("errorPosition");
        for (int rule = 0; rule < Math.min(3, model.ruleCount()); rule++) {
            call("ruleHolds", rule);
        }
    }

    private String rulesText() {
        StringBuilder text = new StringBuilder();
        for (int rules = next(12) == 0 ? 13 : between(0, 3); rules > 0; rules--) {
            boolean small = text.length() > 60;
            if (next(3) > 0 && !small) {
                text.append("when ").append(test()).append(":");
            }
            text.append(action(small)).append(next(40) == 0 ? "" : ";").append(next(2) == 0 ? " " : "");
        }
        return text.toString();
    }

    private String test() {
        String test = (next(4) == 0 ? "not " : "") + sum(2) + " " + "<>=".charAt(next(3)) + " " + sum(2);
        return next(3) > 0 ? test : test + (next(2) == 0 ? " and " : " or ") + test();
    }

    private String action(boolean small) {
        switch (next(3)) {
            case 0:
                return "heater " + part() + " " + new String[] {"on", "off", "auto"}[next(3)];
            case 1:
                return "louvre " + part() + (next(2) == 0 ? " hold" : " free");
            default:
                return "load " + part() + (next(2) == 0 ? "=" : " = ") + sum(small ? 0 : 3);
        }
    }

    private String part() {
        int parts = Math.max(1, Math.min(model.heaterCount(), model.nodeCount()));
        return "" + (next(20) == 0 ? next(9) : next(parts));
    }

    private String sum(int depth) {
        String sum = factor(depth);
        while (next(3) == 0 && depth > 0) {
            sum += new String[] {"+", "-", "*", "/", " - ", " * "}[next(6)] + factor(depth);
        }
        return sum;
    }

    private String factor(int depth) {
        switch (next(depth > 0 ? 12 : 8)) {
            case 0:
                return "temp " + (next(20) == 0 ? next(12) : next(Math.max(1, model.nodeCount())));
            case 1:
                return model.louvreCount() > 0 ? "open " + next(model.louvreCount()) : "sun";
            case 2:
                return model.heaterCount() > 0 ? "state " + next(model.heaterCount()) : "used";
            case 3:
                return new String[] {"sun", "phase", "charge", "used"}[next(4)];
            case 8:
                return "-" + factor(depth - 1);
            case 9:
            case 10:
                return "(" + sum(depth - 1) + ")";
            case 11:
                return next(6) == 0 ? "-".repeat(between(15, 24)) + factor(0) : "(".repeat(3) + sum(0) + ")".repeat(3);
            default:
                return "" + new int[] {next(10), next(1000), next(30000), 999999, 1000000 - next(2)}[next(30) == 0 ? 4 : next(4)];
        }
    }

    /** A text with a byte or a token put in, taken out or changed. */
    private String spoiled(String text) {
        int at = next(text.length() + 1);
        int to = Math.min(text.length(), at + next(3));
        String[] pieces = (next(2) == 0 ? WORDS : SYMBOLS).split(" ");
        switch (next(3)) {
            case 0:
                return text.substring(0, at) + pieces[next(pieces.length)] + text.substring(at);
            case 1:
                return text.substring(0, at) + text.substring(to);
            default:
                return text.substring(0, at) + (char) next(256) + text.substring(to);
        }
    }
}
