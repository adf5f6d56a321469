import java.math.BigInteger;
import java.util.ArrayList;
import java.util.List;
import java.util.regex.Matcher;
import java.util.regex.Pattern;

/** Reads a text as rules for PlainModel, rule of the grammar by rule of the grammar. */
final class PlainParser {
    private static final Pattern TOKEN = Pattern.compile("[ \n]*([a-z]+|[0-9]+|[<>=+\\-*/():;])");
    private static final BigInteger MOST = BigInteger.valueOf(1000000000000L);

    private final String text;
    private final int nodes;
    private final int louvres;
    private final int heaters;
    private final Matcher matcher;
    private String token;
    private int start;
    private int depth = 0;

    PlainParser(String text, int nodes, int louvres, int heaters) {
        this.text = text;
        this.nodes = nodes;
        this.louvres = louvres;
        this.heaters = heaters;
        matcher = TOKEN.matcher(text);
        next(0);
    }

    private void next(int from) {
        matcher.region(from, text.length());
        if (matcher.lookingAt()) {
            token = matcher.group(1);
            start = matcher.start(1);
            return;
        }
        start = from;
        while (start < text.length() && (text.charAt(start) == ' ' || text.charAt(start) == '\n')) {
            start++;
        }
        token = start == text.length() ? "" : "bad byte";
    }

    private String take() {
        String taken = token;
        next(start + token.length());
        return taken;
    }

    private boolean is(String wanted) {
        return (" " + wanted + " ").contains(" " + token + " ") && !token.isEmpty();
    }

    private String need(String wanted) throws PlainModel.Wrong {
        if (!is(wanted)) {
            throw new PlainModel.Wrong(1, start);
        }
        return take();
    }

    private int number(int below) throws PlainModel.Wrong {
        if (!token.matches("[0-9]+")) {
            throw new PlainModel.Wrong(1, start);
        }
        BigInteger value = new BigInteger(token);
        if (value.compareTo(BigInteger.valueOf(below)) >= 0) {
            throw new PlainModel.Wrong(2, start);
        }
        take();
        return value.intValue();
    }

    List<PlainModel.Rule> rules() throws PlainModel.Wrong {
        List<PlainModel.Rule> rules = new ArrayList<>();
        while (!token.isEmpty()) {
            if (!is("when heater louvre load")) {
                throw new PlainModel.Wrong(1, start);
            }
            if (rules.size() == 12) {
                throw new PlainModel.Wrong(3, start);
            }
            PlainModel.Rule rule = new PlainModel.Rule();
            rule.test = s -> true;
            if (is("when")) {
                take();
                rule.test = test();
                need(":");
            }
            rule.action = action();
            need(";");
            rules.add(rule);
        }
        return rules;
    }

    private PlainModel.Test test() throws PlainModel.Wrong {
        PlainModel.Test left = both();
        while (is("or")) {
            take();
            PlainModel.Test a = left;
            PlainModel.Test b = both();
            left = s -> a.of(s) || b.of(s);
        }
        return left;
    }

    private PlainModel.Test both() throws PlainModel.Wrong {
        PlainModel.Test left = comparison();
        while (is("and")) {
            take();
            PlainModel.Test a = left;
            PlainModel.Test b = comparison();
            left = s -> a.of(s) && b.of(s);
        }
        return left;
    }

    private PlainModel.Test comparison() throws PlainModel.Wrong {
        boolean denied = is("not");
        if (denied) {
            take();
        }
        PlainModel.Sum a = sum();
        String sign = need("< > =");
        PlainModel.Sum b = sum();
        int wanted = sign.equals("<") ? -1 : sign.equals(">") ? 1 : 0;
        return s -> denied != (Integer.signum(a.of(s).compareTo(b.of(s))) == wanted);
    }

    private static BigInteger limit(BigInteger value) {
        return value.min(MOST).max(MOST.negate());
    }

    private PlainModel.Sum sum() throws PlainModel.Wrong {
        PlainModel.Sum left = product();
        while (is("+ -")) {
            boolean plus = take().equals("+");
            PlainModel.Sum a = left;
            PlainModel.Sum b = product();
            left = s -> limit(plus ? a.of(s).add(b.of(s)) : a.of(s).subtract(b.of(s)));
        }
        return left;
    }

    private PlainModel.Sum product() throws PlainModel.Wrong {
        PlainModel.Sum left = factor();
        while (is("* /")) {
            boolean times = take().equals("*");
            PlainModel.Sum a = left;
            PlainModel.Sum b = factor();
            left = s -> times ? limit(a.of(s).multiply(b.of(s))) : divide(a.of(s), b.of(s));
        }
        return left;
    }

    private static BigInteger divide(BigInteger a, BigInteger b) {
        return b.signum() == 0 ? BigInteger.ZERO : limit(a.divide(b));
    }

    private PlainModel.Sum factor() throws PlainModel.Wrong {
        if (is("- (")) {
            if (depth == 20) {
                throw new PlainModel.Wrong(4, start);
            }
            depth++;
            PlainModel.Sum result;
            if (take().equals("-")) {
                PlainModel.Sum inner = factor();
                result = s -> inner.of(s).negate();
            } else {
                result = sum();
                need(")");
            }
            depth--;
            return result;
        }
        if (token.matches("[0-9]+")) {
            BigInteger value = BigInteger.valueOf(number(1000000));
            return s -> value;
        }
        switch (need("temp open state sun phase charge used")) {
            case "temp": {
                int n = number(nodes);
                return s -> BigInteger.valueOf(s.nodes.get(n)[1]);
            }
            case "open": {
                int n = number(louvres);
                return s -> BigInteger.valueOf(s.louvres.get(n)[5]);
            }
            case "state": {
                int n = number(heaters);
                return s -> BigInteger.valueOf(s.heaters.get(n)[7]);
            }
            case "sun":
                return s -> s.sun() ? BigInteger.ONE : BigInteger.ZERO;
            case "phase":
                return s -> BigInteger.valueOf(s.phase());
            case "charge":
                return s -> BigInteger.valueOf(s.power[3]);
            default:
                return s -> BigInteger.valueOf(s.used());
        }
    }

    private PlainModel.Action action() throws PlainModel.Wrong {
        switch (need("heater louvre load")) {
            case "heater": {
                int n = number(heaters);
                String mode = need("on off auto");
                int value = mode.equals("on") ? 1 : mode.equals("off") ? 2 : 0;
                return s -> s.heaters.get(n)[5] = value;
            }
            case "louvre": {
                int n = number(louvres);
                boolean hold = need("hold free").equals("hold");
                return s -> s.louvres.get(n)[6] = hold ? 1 : 0;
            }
            default: {
                int n = number(nodes);
                need("=");
                PlainModel.Sum sum = sum();
                BigInteger most = BigInteger.valueOf(1000000);
                return s -> s.nodes.get(n)[4] = sum.of(s).max(BigInteger.ZERO).min(most).longValueExact();
            }
        }
    }
}
