import java.util.ArrayList;
import java.util.List;

/** What the tests share: desks set up by texts, answers as texts, and the list of wrong answers. */
final class Bench {
    static final String ARGUMENT = "throws.IllegalArgumentException";
    static final String STATE = "throws.IllegalStateException";
    static final String UNSUPPORTED = "throws.UnsupportedOperationException";

    /** A call of the face whose answer, or exception, is looked at. */
    interface Call {
        Object answer();
    }

    private int wrong = 0;

    static Desk desk(String... rules) {
        Desk desk = new Desk();
        enterAll(desk, rules);
        return desk;
    }

    static void enterAll(Desk desk, String... rules) {
        for (String rule : rules) {
            String answer = enter(desk, rule);
            if (answer.startsWith("throws")) {
                throw new AssertionError("the test's own rule " + rule + " " + answer);
            }
        }
    }

    static void type(Desk desk, String text) {
        for (char c : text.toCharArray()) {
            desk.type(c);
        }
    }

    static String enter(Desk desk, String rule) {
        type(desk, rule);
        return answer(desk::rule);
    }

    static void fill(Desk desk, char left, String symbols, int count) {
        enterAll(desk, rulesOf(left, symbols, count));
    }

    /**
     * So many rules of a variable, each a letter and then none, one or two of the symbols: the first
     * ones are a .. f alone, then come a .. f with the first symbol behind, and so on.
     */
    static String[] rulesOf(char left, String symbols, int count) {
        List<String> rules = new ArrayList<>();
        for (String tail : tails(symbols)) {
            for (char letter : "abcdef".toCharArray()) {
                rules.add(left + ":" + letter + tail);
            }
        }
        return rules.subList(0, count).toArray(new String[0]);
    }

    private static List<String> tails(String symbols) {
        List<String> tails = new ArrayList<>();
        tails.add("");
        for (char one : symbols.toCharArray()) {
            tails.add("" + one);
        }
        for (char one : symbols.toCharArray()) {
            for (char two : symbols.toCharArray()) {
                tails.add("" + one + two);
            }
        }
        return tails;
    }

    static void word(Desk desk, String letters) {
        desk.wipe();
        for (char c : letters.toCharArray()) {
            desk.feed(c);
        }
    }

    /** All rules as symbol() and rules() tell them, like "A:ab B:". */
    static String text(Desk desk) {
        StringBuilder text = new StringBuilder();
        int rules = desk.rules();
        for (int i = 0; i < rules; i++) {
            text.append(i == 0 ? "" : " ").append(text(desk, i));
        }
        return text.toString();
    }

    /** One rule as symbol() tells it. */
    static String text(Desk desk, int i) {
        StringBuilder text = new StringBuilder();
        text.append((char) desk.symbol(i, 0)).append(':');
        int k = 1;
        for (int symbol = desk.symbol(i, k); symbol != GrammarDesk.NONE; symbol = desk.symbol(i, k)) {
            text.append((char) symbol);
            k++;
        }
        return text.toString();
    }

    /** The derivation as step() tells it, like "1 0 2". */
    static String steps(Desk desk) {
        StringBuilder text = new StringBuilder();
        int k = 0;
        for (int step = desk.step(k); step != GrammarDesk.NONE; step = desk.step(k)) {
            text.append(k == 0 ? "" : " ").append(step);
            k++;
        }
        return text.toString();
    }

    static String answer(Call call) {
        try {
            return String.valueOf(call.answer());
        } catch (RuntimeException e) {
            return "throws." + e.getClass().getSimpleName();
        }
    }

    void due(String what, Object got, Object due) {
        if (!String.valueOf(got).equals(String.valueOf(due))) {
            wrong++;
            System.out.println(what + " answered " + got + ", due is " + due);
        }
    }

    void dueOf(String what, Call call, Object due) {
        due(what, answer(call), due);
    }

    void end() {
        System.out.println(wrong == 0 ? "all answers are as due" : wrong + " answers are not as due");
        if (wrong != 0) {
            System.exit(1);
        }
    }
}
