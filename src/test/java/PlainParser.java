import java.util.ArrayList;
import java.util.HashSet;
import java.util.List;
import java.util.Set;
import java.util.regex.Matcher;
import java.util.regex.Pattern;

/** A second reader of sheets: it lists all tokens first and then asks what each one may be. */
final class PlainParser {
    private record Token(String text, int offset) {
        boolean isNumber() {
            return text.matches("[0-9]+");
        }
    }

    private static final Pattern TOKENS = Pattern.compile("[a-z]+|[0-9]+|[^ ]", Pattern.DOTALL);

    int code = 0;
    int offset = -1;
    int statements = 0;
    private final List<Token> tokens = new ArrayList<>();
    private int next = 0;
    private int levers;
    private int rules;
    private int routes;
    private final Set<Set<Integer>> conflicts = new HashSet<>();

    PlainParser(String text) {
        Matcher matcher = TOKENS.matcher(text);
        while (matcher.find()) {
            tokens.add(new Token(matcher.group(), matcher.start()));
        }
        tokens.add(new Token("", text.length()));
        sheet();
    }

    private Token token() {
        return tokens.get(next);
    }

    private boolean error(int errorCode) {
        code = errorCode;
        offset = token().offset;
        return false;
    }

    private boolean word(String... allowed) {
        if (!List.of(allowed).contains(token().text)) {
            return error(1);
        }
        next++;
        return true;
    }

    /** Accepts a number of the range that is not taken; adds it to the taken ones. */
    private boolean number(int low, int high, Set<Integer> taken) {
        if (!token().isNumber()) {
            return error(1);
        }
        if (token().text.length() > 4) {
            return error(2);
        }
        int value = Integer.parseInt(token().text);
        if (value < low || value > high) {
            return error(2);
        }
        if (!taken.add(value)) {
            return error(3);
        }
        next++;
        return true;
    }

    private void sheet() {
        Set<Integer> count = new HashSet<>();
        if (!word("levers") || !number(2, 12, count) || !word(";")) {
            return;
        }
        levers = count.iterator().next();
        statements = 1;
        while (next < tokens.size() - 1) {
            if (!statement() || !word(";")) {
                return;
            }
            statements++;
        }
    }

    private boolean statement() {
        Set<Integer> taken = new HashSet<>();
        if (token().isNumber()) {
            return rule(taken);
        }
        int start = next;
        if (!word("route", "conflict")) {
            return false;
        }
        boolean route = tokens.get(start).text.equals("route");
        if ((route ? routes : conflicts.size()) == 8) {
            next = start;
            return error(4);
        }
        return route ? route(taken) : conflict(taken);
    }

    private boolean rule(Set<Integer> taken) {
        int start = next;
        if (!number(0, levers - 1, taken)) {
            return false;
        }
        if (rules == 24) {
            next = start;
            return error(4);
        }
        rules++;
        if (!word("locks", "releases", "holds") || !number(0, levers - 1, taken)) {
            return false;
        }
        if (!token().text.equals("when")) {
            return true;
        }
        return word("when") && number(0, levers - 1, taken) && word("normal", "reversed");
    }

    private boolean route(Set<Integer> taken) {
        do {
            if (!number(0, levers - 1, taken)) {
                return false;
            }
        } while (token().isNumber());
        routes++;
        return true;
    }

    private boolean conflict(Set<Integer> taken) {
        if (!number(0, routes - 1, taken) || !number(0, routes - 1, taken)) {
            return false;
        }
        if (!conflicts.add(taken)) {
            next--;
            return error(3);
        }
        return true;
    }
}
