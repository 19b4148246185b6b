import java.util.ArrayList;
import java.util.List;
import java.util.Random;
import java.util.function.Consumer;

/**
 * What the cleanings and Greibach's form are made for: the start produces the same words behind them
 * as before, but for the empty one where empty rules go. This asks the class alone: a step misread by
 * class and model alike shows here, if it changes which words there are.
 */
public final class MeaningTest {
    private static final int GRAMMARS = 10000;
    private static final int LONGEST_WORD = 3;
    private static final int CHANCE_WORDS = 4;
    private static final Bench bench = new Bench();
    private static int made = 0;
    private static int forms = 0;

    private final Random random;
    private final List<String> rules = new ArrayList<>();
    private final List<String> words = new ArrayList<>();

    private MeaningTest(int seed) {
        random = new Random(seed);
        String variables = "ABCD".substring(0, 1 + random.nextInt(4));
        for (int count = 2 + random.nextInt(8); count > 0; count--) {
            rules.add(pick(variables) + ":" + row(variables + "ab", random.nextInt(4)));
        }
        addWords("");
        for (int count = 0; count < CHANCE_WORDS; count++) {
            words.add(row("ab", LONGEST_WORD + 1 + random.nextInt(4)));
        }
    }

    public static void main(String[] args) {
        for (int seed = 0; seed < GRAMMARS; seed++) {
            MeaningTest test = new MeaningTest(seed);
            test.keepsWords("9: useful", Desk::useful, true);
            test.keepsWords("10: solid", Desk::solid, false);
            test.keepsWords("11: plain", Desk::plain, true);
            test.keepsWords("12: greibach", MeaningTest::makeGreibach, false);
        }
        bench.due("MeaningTest saw most cleanings made", made > 3 * GRAMMARS, true);
        bench.due("MeaningTest saw most forms made", forms > GRAMMARS / 2, true);
        bench.end();
    }

    private static void makeGreibach(Desk desk) {
        int left = desk.greibach();
        bench.due("12: the rules that greibach tells", left, desk.rules());
        bench.due("12: the form behind greibach", desk.shape() & 11, 11);
        forms++;
    }

    private char pick(String from) {
        return from.charAt(random.nextInt(from.length()));
    }

    private String row(String from, int length) {
        StringBuilder row = new StringBuilder();
        for (int i = 0; i < length; i++) {
            row.append(pick(from));
        }
        return row.toString();
    }

    private void addWords(String word) {
        words.add(word);
        if (word.length() < LONGEST_WORD) {
            addWords(word + 'a');
            addWords(word + 'b');
        }
    }

    private void keepsWords(String what, Consumer<Desk> cleaning, boolean withEmpty) {
        Desk desk = Bench.desk(rules.toArray(new String[0]));
        String before = produced(desk, withEmpty);
        try {
            cleaning.accept(desk);
        } catch (UnsupportedOperationException e) {
            bench.due(what + " is refused and leaves the words of " + rules, produced(desk, withEmpty), before);
            return;
        }
        made++;
        bench.due(what + " keeps the words of " + rules, produced(desk, withEmpty), before);
        Bench.word(desk, "");
        if (!withEmpty) {
            bench.due(what + " takes the empty word from " + rules, desk.derives(), false);
        }
    }

    private String produced(Desk desk, boolean withEmpty) {
        StringBuilder found = new StringBuilder();
        for (String word : words) {
            Bench.word(desk, word);
            if ((withEmpty || !word.isEmpty()) && desk.derives()) {
                found.append(word).append('.');
            }
        }
        return found.toString();
    }
}
