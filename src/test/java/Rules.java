import java.util.ArrayList;
import java.util.HashMap;
import java.util.List;
import java.util.Map;
import java.util.function.Predicate;
import java.util.regex.Matcher;
import java.util.regex.Pattern;

/** A STYLE of the Model: the text in tokens first, then RULES with conditions that are functions. */
final class Rules {
    static final class Facts {
        final Map<String, Boolean> tags = new HashMap<>();
        final Map<String, Integer> numbers = new HashMap<>();
    }

    static final class Rule {
        String kind;
        final List<Integer> numbers = new ArrayList<>();
        Predicate<Facts> condition = facts -> true;
    }

    private static final class Wrong extends Exception {
        private static final long serialVersionUID = 1;
    }

    private static final Pattern TOKEN = Pattern.compile("[a-z]+|[0-9]+|[^ ]", Pattern.DOTALL);
    private static final List<String> TAGS = List.of("head", "late", "corrected");
    private static final List<String> FACTS = List.of("words", "bits", "due", "minute", "letters", "machine");

    final List<Rule> rules = new ArrayList<>();
    final int minute;
    int fault = -1;
    private final List<String> tokens = new ArrayList<>();
    private final List<Integer> begins = new ArrayList<>();
    private int at = 0;

    Rules(String text, int minute) {
        this.minute = minute;
        Matcher matcher = TOKEN.matcher(text);
        while (matcher.find()) {
            tokens.add(matcher.group());
            begins.add(matcher.start());
        }
        tokens.add("");
        begins.add(text.length());
        try {
            readAll();
        } catch (Wrong e) {
            fault = begins.get(at);
        }
    }

    private void readAll() throws Wrong {
        if (tokens.size() == 1) {
            return;
        }
        do {
            if (rules.size() == 12) {
                throw new Wrong();
            }
            rules.add(readRule());
        } while (took(";"));
        need("");
    }

    private boolean took(String token) {
        if (!tokens.get(at).equals(token)) {
            return false;
        }
        at++;
        return true;
    }

    private void need(String token) throws Wrong {
        if (!took(token)) {
            throw new Wrong();
        }
    }

    private int number(int from, int to) throws Wrong {
        String token = tokens.get(at);
        if (!token.matches("[0-9]{1,4}") || Integer.parseInt(token) < from || Integer.parseInt(token) > to) {
            throw new Wrong();
        }
        at++;
        return Integer.parseInt(token);
    }

    private Rule readRule() throws Wrong {
        Rule rule = new Rule();
        rule.kind = tokens.get(at);
        if (!List.of("measure", "space", "part", "fat", "pay", "free", "close").contains(rule.kind)) {
            throw new Wrong();
        }
        at++;
        switch (rule.kind) {
            case "measure":
                rule.numbers.add(number(10, 400));
                break;
            case "space":
                rule.numbers.add(number(1, 40));
                rule.numbers.add(number(rule.numbers.get(0), 40));
                break;
            case "part":
            case "pay":
                rule.numbers.add(number(0, 999));
                break;
            case "fat":
                rule.numbers.add(number(0, 99));
                break;
            case "close":
                rule.numbers.add(number(0, 5));
                need("at");
                rule.numbers.add(number(0, 600));
                break;
            default:
                need("if");
                rule.condition = either(0);
        }
        if ((rule.kind.equals("measure") || rule.kind.equals("pay")) && took("if")) {
            rule.condition = either(0);
        }
        return rule;
    }

    private Predicate<Facts> either(int deep) throws Wrong {
        Predicate<Facts> all = every(deep);
        while (took("or")) {
            all = all.or(every(deep));
        }
        return all;
    }

    private Predicate<Facts> every(int deep) throws Wrong {
        Predicate<Facts> all = atom(deep);
        while (took("and")) {
            all = all.and(atom(deep));
        }
        return all;
    }

    private Predicate<Facts> atom(int deep) throws Wrong {
        String token = tokens.get(at);
        if (token.equals("not") || token.equals("(")) {
            if (deep == 5) {
                throw new Wrong();
            }
            at++;
            if (token.equals("not")) {
                return atom(deep + 1).negate();
            }
            Predicate<Facts> inner = either(deep + 1);
            need(")");
            return inner;
        }
        if (TAGS.contains(token)) {
            at++;
            return facts -> facts.tags.get(token);
        }
        if (!FACTS.contains(token)) {
            throw new Wrong();
        }
        at++;
        boolean below = tokens.get(at).equals("<");
        need(below ? "<" : ">");
        int number = number(0, 9999);
        return facts -> below ? facts.numbers.get(token) < number : facts.numbers.get(token) > number;
    }

    int last(String kind, Facts facts) {
        int last = -1;
        for (int i = 0; i < rules.size(); i++) {
            if (rules.get(i).kind.equals(kind) && rules.get(i).condition.test(facts)) {
                last = i;
            }
        }
        return last;
    }

    int number(String kind, Facts facts, int which, int without) {
        int last = last(kind, facts);
        return last < 0 ? without : rules.get(last).numbers.get(which);
    }

    int close(int page, int without) {
        int close = without;
        for (Rule rule : rules) {
            if (rule.kind.equals("close") && rule.numbers.get(0) == page) {
                close = rule.numbers.get(1);
            }
        }
        return close;
    }
}
