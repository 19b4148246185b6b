/** What the tests share: desks set up by texts, answers as texts, and the list of wrong answers. */
final class Bench {
    /** A call of the face whose answer, or exception, is looked at. */
    interface Call {
        Object answer();
    }

    private int wrong = 0;

    static GrammarDesk desk(String... rules) {
        GrammarDesk desk = new GrammarDesk();
        for (String rule : rules) {
            String answer = enter(desk, rule);
            if (answer.startsWith("throws")) {
                throw new AssertionError("the test's own rule " + rule + " " + answer);
            }
        }
        return desk;
    }

    static void type(GrammarDesk desk, String text) {
        for (char c : text.toCharArray()) {
            desk.type(c);
        }
    }

    static String enter(GrammarDesk desk, String rule) {
        type(desk, rule);
        return answer(desk::rule);
    }

    static void word(GrammarDesk desk, String letters) {
        desk.wipe();
        for (char c : letters.toCharArray()) {
            desk.feed(c);
        }
    }

    /** All rules as symbol() and rules() tell them, like "A:ab B:". */
    static String text(GrammarDesk desk) {
        StringBuilder text = new StringBuilder();
        for (int i = 0; i < desk.rules(); i++) {
            text.append(i == 0 ? "" : " ").append((char) desk.symbol(i, 0)).append(':');
            for (int k = 1; desk.symbol(i, k) != GrammarDesk.NONE; k++) {
                text.append((char) desk.symbol(i, k));
            }
        }
        return text.toString();
    }

    /** The derivation as step() tells it, like "1 0 2". */
    static String steps(GrammarDesk desk) {
        StringBuilder text = new StringBuilder();
        for (int k = 0; desk.step(k) != GrammarDesk.NONE; k++) {
            text.append(k == 0 ? "" : " ").append(desk.step(k));
        }
        return text.toString();
    }

    static String answer(Call call) {
        try {
            return String.valueOf(call.answer());
        } catch (RuntimeException e) {
            return "throws." + e.getClass().getSimpleName();
        }
    }

    void due(String what, Object got, Object due) {
        if (!String.valueOf(got).equals(String.valueOf(due))) {
            wrong++;
            System.out.println(what + " answered " + got + ", due is " + due);
        }
    }

    void dueOf(String what, Call call, Object due) {
        due(what, answer(call), due);
    }

    void end() {
        System.out.println(wrong == 0 ? "all answers are as due" : wrong + " answers are not as due");
        if (wrong != 0) {
            System.exit(1);
        }
    }
}
