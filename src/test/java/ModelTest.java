import java.util.Map;
import java.util.Random;
import java.util.TreeMap;

/** Long runs of calls, made from fixed seeds, on the class and on the model: each answer is the same. */
public final class ModelTest {
    private static final int RUNS = 4000;
    /** The dearest turn below: a word and its derivation. */
    private static final int CALLS_OF_A_TURN = 30;
    private static final Bench bench = new Bench();
    private static final Map<String, Integer> seen = new TreeMap<>();

    private final Random random;
    private final Desk desk = new Desk();
    private final GrammarModel model = new GrammarModel();
    private final int run;
    private final String variables;
    private final String letters;
    private final int longest;
    private int calls = 0;
    private boolean differs = false;

    private ModelTest(int run) {
        this.run = run;
        random = new Random(run);
        variables = "ABCDEFGH".substring(0, 1 + random.nextInt(8));
        letters = "abcdef".substring(0, 1 + random.nextInt(6));
        longest = 1 + random.nextInt(6);
    }

    public static void main(String[] args) {
        for (int run = 0; run < RUNS; run++) {
            new ModelTest(run).play();
        }
        // Runs that never meet an exception or a change would test little.
        for (String kind : new String[] {"greibach answers", "greibach throws", "solid throws", "plain throws", "rule throws",
            "derive throws", "derive answers", "ways answers", "ways throws", "ways >1"}) {
            bench.due("ModelTest met often: " + kind, seen.getOrDefault(kind, 0) > 50, true);
        }
        bench.end();
    }

    private void play() {
        int rules = random.nextInt(random.nextInt(4) == 0 ? 50 : 12);
        for (int i = 0; i < rules && desk.callsLeft() > 200; i++) {
            enterRule();
        }
        while (desk.callsLeft() >= CALLS_OF_A_TURN && !differs) {
            call(random.nextInt(30));
            if (random.nextInt(60) == 0) {
                break;
            }
        }
        sameRules();
    }

    private void sameRules() {
        for (int i = 0; i < model.rules() && desk.callsLeft() >= 12; i++) {
            int at = i;
            same("text " + i, () -> Bench.text(desk, at), () -> model.text().split(" ")[at]);
        }
    }

    private void enterRule() {
        String rule = variables.charAt(random.nextInt(variables.length())) + ":" + row(random.nextInt(longest + 1));
        if (random.nextInt(40) == 0) {
            int at = random.nextInt(rule.length());
            rule = rule.substring(0, at) + (char) (random.nextInt(100) + 30) + rule.substring(at);
        }
        for (char c : rule.toCharArray()) {
            same("type " + c, () -> desk.type(c), () -> model.type(c));
        }
        same("rule", desk::rule, model::rule);
        same("place", desk::place, model::place);
    }

    private String row(int length) {
        StringBuilder row = new StringBuilder();
        for (int i = 0; i < length; i++) {
            String from = random.nextBoolean() ? variables : letters;
            row.append(from.charAt(random.nextInt(from.length())));
        }
        return row.toString();
    }

    private String anyWord() {
        StringBuilder word = new StringBuilder();
        for (int length = random.nextInt(12); length > 0; length--) {
            word.append(letters.charAt(random.nextInt(letters.length())));
        }
        return word.toString();
    }

    private void enterWord() {
        same("wipe", desk::wipe, model::wipe);
        for (char c : (random.nextInt(3) == 0 ? anyWord() : model.someWord(random)).toCharArray()) {
            same("feed " + c, () -> desk.feed(c), () -> model.feed(c));
        }
        same("derives", desk::derives, model::derives);
        same("ways", desk::ways, model::ways);
        deriveAndSteps();
    }

    private void deriveAndSteps() {
        same("derive", desk::derive, model::derive);
        for (int k = -1; k <= 10; k++) {
            int step = k;
            same("step " + k, () -> desk.step(step), () -> model.step(step));
        }
    }

    private void call(int which) {
        int i = random.nextInt(14) - 2;
        int k = random.nextInt(14) - 2;
        char c = (char) ('?' + random.nextInt(22));
        switch (which) {
            case 0 -> same("drop " + i, () -> desk.drop(i), () -> model.drop(i));
            case 1 -> {
                if (random.nextInt(8) == 0) {
                    same("clear", desk::clear, model::clear);
                }
            }
            case 2 -> same("rules", desk::rules, model::rules);
            case 3 -> same("symbol " + i + " " + k, () -> desk.symbol(i, k), () -> model.symbol(i, k));
            case 4 -> same("useful", desk::useful, model::useful);
            case 5 -> same("solid", desk::solid, model::solid);
            case 6 -> same("plain", desk::plain, model::plain);
            case 7, 8 -> same("greibach", desk::greibach, model::greibach);
            case 9, 10 -> same("shape", desk::shape, model::shape);
            case 11, 12 -> same("language " + i % 4, () -> desk.language(i % 4), () -> model.language(i % 4));
            case 13, 14 -> same("first " + c, () -> desk.first(c), () -> model.first(c));
            case 15, 16 -> same("follow " + c, () -> desk.follow(c), () -> model.follow(c));
            case 17 -> same("single", desk::single, model::single);
            case 18, 19, 20, 21, 22 -> enterWord();
            case 23 -> same("step " + k, () -> desk.step(k), () -> model.step(k));
            case 24 -> same("place", desk::place, model::place);
            case 25 -> same("feed " + c, () -> desk.feed(c), () -> model.feed(c));
            case 26 -> same("type " + c, () -> desk.type(c), () -> model.type(c));
            default -> enterRule();
        }
    }

    private void same(String what, Bench.Call ours, Bench.Call theirs) {
        calls++;
        String got = Bench.answer(ours);
        String due = Bench.answer(theirs);
        differs |= !got.equals(due);
        bench.due("run " + run + ", call " + calls + ", " + what + " of " + model.text(), got, due);
        if (what.equals("ways") && !got.startsWith("throws") && !got.matches("[01]")) {
            seen.merge("ways >1", 1, Integer::sum);
        }
        seen.merge(what.split(" ")[0] + (got.startsWith("throws") ? " throws" : " answers"), 1, Integer::sum);
    }
}
