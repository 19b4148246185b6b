/** Promises 18 to 23: feed, wipe, derives, ways, derive, step. */
public final class WordTest {
    private static final String STATE = "throws.IllegalStateException";
    private static final String NOT_PRODUCED = "throws.IllegalArgumentException";
    private static final Bench bench = new Bench();

    public static void main(String[] args) {
        feeding();
        derives();
        ways();
        waysBeyondAMillion();
        derive();
        leastDerivation();
        deriveRefused();
        changesEndTheDerivation();
        noChangeKeepsTheDerivation();
        bench.end();
    }

    private static void feeding() {
        GrammarDesk desk = new GrammarDesk();
        for (char c : new char[] {'g', 'A', '`', ' ', 0, 'a' + 256, 65535}) {
            bench.due("18: no letter " + (int) c, desk.feed(c), false);
        }
        bench.due("19: none came in", desk.wipe(), 0);
        for (int i = 0; i < 10; i++) {
            bench.due("18: letter " + i, desk.feed("abcdef".charAt(i % 6)), true);
        }
        bench.due("18: an eleventh", desk.feed('a'), false);
        bench.due("19: ten", desk.wipe(), 10);
        bench.due("19: empty now", desk.wipe(), 0);
        bench.due("18: room again", desk.feed('f'), true);
        Bench.enter(desk, "A:f");
        bench.due("18: it is the letter", desk.derives(), true);
    }

    private static boolean derives(GrammarDesk desk, String word) {
        Bench.word(desk, word);
        return desk.derives();
    }

    private static void derives() {
        GrammarDesk desk = Bench.desk("A:aAb", "A:");
        bench.due("20: empty", derives(desk, ""), true);
        bench.due("20: ab", derives(desk, "ab"), true);
        bench.due("20: five and five", derives(desk, "aaaaabbbbb"), true);
        bench.due("20: five and four", derives(desk, "aaaaabbbb"), false);
        bench.due("20: ba", derives(desk, "ba"), false);
        desk = Bench.desk("A:AA", "A:B", "A:", "B:A", "B:aCb", "C:CC", "C:", "C:A");
        bench.due("20: with units, circles and empty rules", derives(desk, "aabbabab"), true);
        bench.due("20: not this", derives(desk, "aabbabba"), false);
        bench.due("20: another start", derives(Bench.desk("B:b"), "b"), false);
        bench.due("20: no rules", derives(new GrammarDesk(), ""), false);
        bench.due("20: a part is not the word", derives(Bench.desk("A:a"), "aa"), false);
        bench.due("20: more than the word", derives(Bench.desk("A:aaa"), "aa"), false);
        bench.due("20: all letters", derives(Bench.desk("A:abcBef", "B:fedcd"), "abcfedcdef"), true);
    }

    private static String ways(GrammarDesk desk, String word) {
        Bench.word(desk, word);
        return Bench.answer(desk::ways);
    }

    private static void ways() {
        GrammarDesk desk = Bench.desk("A:AA", "A:a");
        int[] catalan = {0, 1, 1, 2, 5, 14, 42, 132, 429, 1430, 4862};
        for (int n = 0; n < catalan.length; n++) {
            bench.due("21: " + n + " letters", ways(desk, "a".repeat(n)), catalan[n]);
        }
        bench.due("21: not produced", ways(desk, "ab"), 0);
        bench.due("21: no rules", ways(new GrammarDesk(), "a"), 0);
        bench.due("21: no rules, empty word", ways(new GrammarDesk(), ""), 0);
        bench.due("21: two ways", ways(Bench.desk("A:Bb", "A:aC", "B:a", "C:b"), "ab"), 2);
        bench.due("21: useless rules add none", ways(Bench.desk("A:a", "A:aD", "B:a"), "a"), 1);
        bench.due("21: a unit", ways(Bench.desk("A:a", "B:C"), "a"), STATE);
        bench.due("21: an empty rule", ways(Bench.desk("A:a", "B:"), "a"), STATE);
        bench.due("21: letters inside", ways(Bench.desk("A:aAbAc", "A:AdA", "A:e"), "aebededec"), 2);
    }

    /** Five times B, which has as many ways to two letters as it has rules. */
    private static void waysBeyondAMillion() {
        GrammarDesk desk = Bench.desk("A:BBBBB", "C:a", "D:a", "E:a", "F:a");
        for (int i = 0; i < 15; i++) {
            Bench.enter(desk, "B:" + "CDEF".charAt(i / 4) + "CDEF".charAt(i % 4));
        }
        bench.due("21: less than a million", ways(desk, "a".repeat(10)), 15 * 15 * 15 * 15 * 15);
        Bench.enter(desk, "B:FF");
        bench.due("21: more than a million", ways(desk, "a".repeat(10)), 1000000);
        bench.due("21: none", ways(desk, "a".repeat(9)), 0);
        desk = Bench.desk("A:AA", "A:a", "A:AB", "A:BA", "A:BB", "B:a", "B:AA", "B:BB");
        bench.due("21: far more than a million", ways(desk, "a".repeat(10)), 1000000);
        bench.due("21: few", ways(desk, "a".repeat(2)), 4);
    }

    private static String derive(GrammarDesk desk, String word) {
        Bench.word(desk, word);
        return Bench.answer(desk::derive) + ": " + Bench.steps(desk);
    }

    private static void derive() {
        GrammarDesk desk = Bench.desk("A:aAB", "A:b", "B:b");
        bench.due("22: ", derive(desk, "aabbb"), "5: 1 1 0 2 2");
        bench.due("23: before the first", desk.step(-1), -1);
        bench.due("23: the last", desk.step(4), 2);
        bench.due("23: behind the last", desk.step(5), -1);
        bench.due("23: far", desk.step(Integer.MAX_VALUE), -1);
        bench.due("23: least", desk.step(Integer.MIN_VALUE), -1);
        bench.due("22: one letter", derive(desk, "b"), "1: 0");
        bench.due("22: ten letters", derive(Bench.desk("A:aB", "A:aA", "B:b"), "aaaaaaaaab"), "10: 0 0 0 0 0 0 0 0 1 2");
    }

    private static void leastDerivation() {
        GrammarDesk desk = Bench.desk("A:a", "A:aA", "A:aAA", "A:aAAA");
        bench.due("22: the least, number by number", derive(desk, "aaaaa"), "5: 1 1 1 1 0");
        desk = Bench.desk("A:aBC", "A:aCB", "B:b", "B:bB", "C:b", "C:bC");
        bench.due("22: the first choice first", derive(desk, "abbbb"), "5: 0 2 5 5 4");
        desk = Bench.desk("A:aB", "A:aC", "B:bB", "B:c", "C:bD", "D:d");
        bench.due("22: not what leads nowhere", derive(desk, "abd"), "3: 1 4 5");
    }

    private static void deriveRefused() {
        GrammarDesk desk = Bench.desk("A:aA", "A:b");
        bench.due("22: not produced", derive(desk, "aa"), NOT_PRODUCED + ": ");
        bench.due("22: the empty word", derive(desk, ""), NOT_PRODUCED + ": ");
        bench.due("22: no rules are Greibach's form", derive(new GrammarDesk(), "a"), NOT_PRODUCED + ": ");
        bench.due("22: an empty rule", derive(Bench.desk("A:a", "B:"), "a"), STATE + ": ");
        bench.due("22: a letter inside", derive(Bench.desk("A:a", "A:ab"), "a"), STATE + ": ");
        bench.due("22: a variable first", derive(Bench.desk("A:a", "A:Aa"), "a"), STATE + ": ");
        bench.due("22: the form before the word", derive(Bench.desk("A:ab"), "b"), STATE + ": ");
        bench.due("22: useless rules may be there", derive(Bench.desk("A:b", "B:bC"), "b"), "1: 0");
    }

    private static GrammarDesk derived() {
        GrammarDesk desk = Bench.desk("A:aA", "A:b", "B:b");
        bench.due("22: derived", derive(desk, "aab"), "3: 1 1 0");
        return desk;
    }

    private static void changesEndTheDerivation() {
        GrammarDesk desk = derived();
        Bench.enter(desk, "C:c");
        bench.due("23: a new rule", desk.step(0), -1);
        desk.drop(desk.rules() - 1);
        bench.due("23: and gone again", desk.step(0), -1);
        desk = derived();
        desk.drop(2);
        bench.due("23: a rule dropped", desk.step(0), -1);
        desk = derived();
        desk.clear();
        bench.due("23: cleared", desk.step(0), -1);
        desk = derived();
        desk.useful();
        bench.due("23: useless ones gone", desk.step(0), -1);
        desk = derived();
        desk.greibach();
        bench.due("23: made anew", desk.step(0), -1);
        desk = derived();
        desk.feed('b');
        bench.due("23: a letter more", desk.step(0), -1);
        desk = derived();
        desk.wipe();
        bench.due("23: wiped", desk.step(0), -1);
        Bench.word(desk, "aab");
        bench.due("23: and fed again", desk.step(0), -1);
        bench.dueOf("22: found again", desk::derive, 3);
        bench.due("23: found again", Bench.steps(desk), "1 1 0");
    }

    private static void noChangeKeepsTheDerivation() {
        GrammarDesk desk = derived();
        desk.type('x');
        Bench.answer(desk::rule);
        Bench.enter(desk, "A:b");
        desk.drop(3);
        desk.drop(-1);
        desk.feed('g');
        desk.solid();
        desk.plain();
        desk.shape();
        desk.language(1);
        desk.first('A');
        desk.follow('A');
        desk.single();
        desk.derives();
        desk.ways();
        bench.due("23: nothing changed", Bench.steps(desk), "1 1 0");
        desk = Bench.desk("A:aA", "A:b");
        bench.due("22: ", derive(desk, "aaaaaaaaab"), "10: 1 1 1 1 1 1 1 1 1 0");
        desk.useful();
        desk.greibach();
        desk.feed('a');
        bench.due("23: the same rules again, and a letter refused", Bench.steps(desk), "1 1 1 1 1 1 1 1 1 0");
    }
}
