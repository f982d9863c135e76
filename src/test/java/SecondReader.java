import java.util.ArrayList;
import java.util.HashSet;
import java.util.List;
import java.util.Map;
import java.util.Set;
import java.util.TreeMap;
import java.util.regex.Matcher;
import java.util.regex.Pattern;

/** The stair's language by another road: tokens by patterns first, then each as the document's lines have them. */
final class SecondReader {
    private static final Pattern TOKEN = Pattern.compile("[a-z]+|[0-9]+|[^ \n]");
    private static final String KNOWN = "[a-z]{1,8}|[0-9]{1,4}|[()<=+*;-]";
    private static final Set<String> ONCE = Set.of("strides", "creaks", "foot", "count", "great", "mood");
    private static final Map<String, Integer> KINDS = Map.of("broken", 1, "creak", 2, "landing", 3);

    /** Ends the reading at the token that is wrong. */
    private static final class Wrong extends Exception {
        private static final long serialVersionUID = 1L;
        final int fault;

        Wrong(int fault) {
            this.fault = fault;
        }
    }

    final int fault;
    int top;
    final Set<Integer> strides = new HashSet<>();
    final Map<Integer, Integer> kinds = new TreeMap<>();
    final Set<String> bars = new HashSet<>();
    private final List<String> tokens = new ArrayList<>();
    private final List<Integer> places = new ArrayList<>();
    private final Set<String> told = new HashSet<>();
    private int at;

    SecondReader(String text) {
        Matcher matcher = TOKEN.matcher(text);
        while (matcher.find()) {
            tokens.add(matcher.group().matches(KNOWN) ? matcher.group() : "?");
            places.add(matcher.start());
        }
        tokens.add("");
        places.add(text.length());
        int found = 0;
        try {
            stair();
        } catch (Wrong wrong) {
            found = wrong.fault;
        }
        fault = found;
    }

    private void stair() throws Wrong {
        take("stair");
        top = number(1, 40, false, false);
        take(";");
        while (!is("")) {
            String word = tokens.get(at);
            if (!ONCE.contains(word) && !KINDS.containsKey(word) && !word.equals("bar")) {
                wrong(1);
            }
            if (!told.add(word) && ONCE.contains(word)) {
                wrong(3);
            }
            if (word.equals("bar") && bars.size() == 8) {
                wrong(5);
            }
            at++;
            line(word);
            take(";");
        }
        if (!told.contains("strides")) {
            strides.addAll(List.of(1, 2));
        }
    }

    private void line(String word) throws Wrong {
        switch (word) {
            case "strides" -> {
                do {
                    strides.add(number(1, 12, strides.contains(peeked()), strides.size() == 6));
                } while (!is(";"));
            }
            case "creaks" -> number(0, 4, false, false);
            case "bar" -> {
                int one = number(1, 12, false, false);
                String second = one + " " + peeked();
                number(1, 12, bars.contains(second), false);
                bars.add(second);
            }
            case "foot" -> take(is("right") ? "right" : "left");
            case "count" -> {
                int from = number(0, 40, false, false);
                take("to");
                number(from, 40, false, false);
            }
            case "great" -> {
                number(1, 12, false, false);
                take("times");
                number(0, 4, false, false);
            }
            case "mood" -> expression(0);
            default -> kinds.put(number(1, top - 1, kinds.containsKey(peeked()), false), KINDS.get(word));
        }
    }

    /** Parts, and what may stand between two of them; of tests one sign of comparing behind each and, or. */
    private void expression(int within) throws Wrong {
        boolean compared = false;
        while (true) {
            part(within);
            if (is("and") || is("or")) {
                compared = false;
            } else if (is("<") || is("=")) {
                if (compared) {
                    return;
                }
                compared = true;
            } else if (!is("+") && !is("-") && !is("*")) {
                return;
            }
            at++;
        }
    }

    private void part(int within) throws Wrong {
        String token = tokens.get(at);
        if (!token.matches("[0-9]+|stride|last|step|taken|not|\\(")) {
            wrong(1);
        }
        if (within == 5) {
            wrong(5);
        }
        at++;
        if (token.equals("not")) {
            part(within + 1);
        } else if (token.equals("(")) {
            expression(within + 1);
            take(")");
        }
    }

    private boolean is(String token) {
        return tokens.get(at).equals(token);
    }

    private void take(String token) throws Wrong {
        if (!is(token)) {
            wrong(1);
        }
        at++;
    }

    /** The number that is next, or -1 if none is. */
    private int peeked() {
        return tokens.get(at).matches("[0-9]+") ? Integer.parseInt(tokens.get(at)) : -1;
    }

    private int number(int from, int to, boolean toldAlready, boolean tooMany) throws Wrong {
        int number = peeked();
        if (number < 0) {
            wrong(1);
        }
        if (toldAlready) {
            wrong(3);
        }
        if (number < from || number > to) {
            wrong(4);
        }
        if (tooMany) {
            wrong(5);
        }
        at++;
        return number;
    }

    private void wrong(int kind) throws Wrong {
        throw new Wrong(kind + 16 * places.get(at));
    }
}
