/** Promises 14 to 17: language, first, follow, single. */
public final class LanguageTest {
    private static final int END = 64;
    private static final Bench bench = new Bench();

    public static void main(String[] args) {
        noWord();
        finitelyMany();
        emptyWord();
        otherQuestions();
        first();
        follow();
        single();
        ofSixtyRules();
        bench.end();
    }

    private static void noWord() {
        bench.due("14: no rules", new GrammarDesk().language(0), true);
        bench.due("14: a word", Bench.desk("A:a").language(0), false);
        bench.due("14: the empty word is one", Bench.desk("A:").language(0), false);
        bench.due("14: never ending", Bench.desk("A:aA", "B:b").language(0), true);
        bench.due("14: over others", Bench.desk("A:BC", "B:b", "C:BB").language(0), false);
    }

    private static void finitelyMany() {
        bench.due("14: none", new GrammarDesk().language(1), true);
        bench.due("14: no word though a circle", Bench.desk("A:aA").language(1), true);
        bench.due("14: one", Bench.desk("A:a").language(1), true);
        bench.due("14: a circle", Bench.desk("A:aA", "A:").language(1), false);
        bench.due("14: a circle in front", Bench.desk("A:Ab", "A:c").language(1), false);
        bench.due("14: a circle of units", Bench.desk("A:B", "B:A", "B:ab").language(1), true);
        bench.due("14: a circle over two", Bench.desk("A:B", "B:Ac", "B:ab").language(1), false);
        bench.due("14: beside what is empty alone", Bench.desk("A:ABB", "A:a", "B:", "B:BB").language(1), true);
        bench.due("14: beside itself, empty alone", Bench.desk("A:AA", "A:").language(1), true);
        bench.due("14: beside itself", Bench.desk("A:AA", "A:", "A:a").language(1), false);
        bench.due("14: beside itself with one letter", Bench.desk("A:AA", "A:a").language(1), false);
        bench.due("14: beside what may have a letter", Bench.desk("A:AB", "A:a", "B:", "B:C", "C:c").language(1), false);
        bench.due("14: an unreached circle", Bench.desk("A:a", "B:bB", "B:b").language(1), true);
        bench.due("14: an unfruitful circle", Bench.desk("A:a", "A:aB", "B:bB").language(1), true);
        bench.due("14: a circle beside the unfruitful", Bench.desk("A:a", "A:bAB", "B:B").language(1), true);
        bench.due("14: below the start", Bench.desk("A:aB", "B:CbD", "C:c", "D:B", "D:d").language(1), false);
        bench.due("14: many without a circle", Bench.desk("A:BBBBBB", "B:CCCCCC", "C:a", "C:").language(1), true);
        GrammarDesk desk = Bench.desk("A:a", "B:b");
        desk.language(1);
        bench.due("14: it changes nothing", Bench.text(desk), "A:a B:b");
    }

    private static void emptyWord() {
        bench.due("14: no rules, no empty word", new GrammarDesk().language(2), false);
        bench.due("14: at once", Bench.desk("A:").language(2), true);
        bench.due("14: over others", Bench.desk("A:BC", "B:", "C:BB").language(2), true);
        bench.due("14: with a letter", Bench.desk("A:Ba", "B:").language(2), false);
        bench.due("14: of another", Bench.desk("A:a", "B:").language(2), false);
    }

    private static void otherQuestions() {
        GrammarDesk desk = Bench.desk("A:");
        for (int what : new int[] {-1, 3, 4, Integer.MAX_VALUE, Integer.MIN_VALUE}) {
            bench.due("14: what " + what, desk.language(what), false);
            bench.due("14: of no rules, what " + what, new GrammarDesk().language(what), false);
        }
    }

    private static void first() {
        GrammarDesk desk = Bench.desk("A:BCd", "B:b", "B:", "C:cA", "C:", "D:DD", "D:", "E:Ef", "E:aE", "F:GG", "F:Gf");
        bench.due("15: A", desk.first('A'), 2 + 4 + 8);
        bench.due("15: B", desk.first('B'), 2 + END);
        bench.due("15: C", desk.first('C'), 4 + END);
        bench.due("15: nullable alone", desk.first('D'), END);
        bench.due("15: useless ones count", desk.first('E'), 1);
        bench.due("15: behind what has no rule nothing comes", desk.first('F'), 0);
        bench.due("15: without a rule", desk.first('G'), 0);
        bench.due("15: P", desk.first('P'), 0);
        for (char c : new char[] {'Q', '@', 'a', 0, 65535, 'A' + 256}) {
            bench.due("15: none " + (int) c, desk.first(c), 0);
        }
        bench.due("15: all letters", Bench.desk("A:a", "A:b", "A:c", "A:d", "A:e", "A:f", "A:").first('A'), 127);
        bench.due("15: in a circle", Bench.desk("A:Ba", "B:Ab", "B:c").first('A'), 4);
        bench.due("15: of what is unfruitful", Bench.desk("A:aB").first('A'), 1);
    }

    private static void follow() {
        GrammarDesk desk = Bench.desk("A:BCd", "B:b", "B:", "C:cA", "C:", "D:aEB", "E:e");
        bench.due("16: the start", desk.follow('A'), 8 + END);
        bench.due("16: B, also by D", desk.follow('B'), 4 + 8);
        bench.due("16: C", desk.follow('C'), 8);
        bench.due("16: D", desk.follow('D'), 0);
        bench.due("16: E", desk.follow('E'), 2);
        bench.due("16: what is in no rule", desk.follow('P'), 0);
        for (char c : new char[] {'Q', '@', 'a', 0, 65535, 'A' + 256}) {
            bench.due("16: none " + (int) c, desk.follow(c), 0);
        }
        bench.due("16: the start without rules", new GrammarDesk().follow('A'), END);
        bench.due("16: over the left side", Bench.desk("A:aB", "B:bC", "C:c").follow('C'), END);
        bench.due("16: without a rule of its own", Bench.desk("A:Gf").follow('G'), 32);
        bench.due("16: two behind", Bench.desk("A:BCDe", "C:", "C:c", "D:", "D:d").follow('B'), 4 + 8 + 16);
        bench.due("16: all may vanish", Bench.desk("A:BCC", "C:", "C:c").follow('B'), 4 + END);
        bench.due("16: twice in one rule", Bench.desk("A:BaBb").follow('B'), 3);
    }

    private static void single() {
        bench.due("17: no rules", new GrammarDesk().single(), true);
        bench.due("17: by letters", Bench.desk("A:aA", "A:b").single(), true);
        bench.due("17: they meet", Bench.desk("A:aA", "A:ab").single(), false);
        bench.due("17: over variables", Bench.desk("A:B", "A:a", "B:C", "C:a").single(), false);
        bench.due("17: of two variables they may meet", Bench.desk("A:aB", "B:a").single(), true);
        bench.due("17: by what is behind", Bench.desk("A:Ba", "B:", "B:b").single(), true);
        bench.due("17: what is behind meets", Bench.desk("A:Ba", "B:", "B:a").single(), false);
        bench.due("17: the end chooses", Bench.desk("A:", "A:a").single(), true);
        bench.due("17: two vanish", Bench.desk("A:B", "A:C", "B:", "C:").single(), false);
        bench.due("17: two vanish with nothing behind", Bench.desk("A:a", "B:", "B:C", "C:").single(), true);
        bench.due("17: useless ones count", Bench.desk("A:a", "B:bB", "B:bC").single(), false);
        bench.due("17: left leads", Bench.desk("A:Aa", "A:b").single(), false);
        bench.due("17: what chooses nothing meets nothing", Bench.desk("A:B", "A:C", "B:B", "C:C").single(), true);
    }

    private static void ofSixtyRules() {
        GrammarDesk desk = new GrammarDesk();
        for (int i = 0; i < 60; i++) {
            Bench.enter(desk, "A:" + "abcdef".charAt(i % 6) + "A".repeat(i / 6 % 5) + (i < 30 ? "" : "a"));
        }
        bench.due("7: sixty", desk.rules(), 60);
        bench.due("14: sixty, no word", desk.language(0), false);
        bench.due("14: sixty, finitely many", desk.language(1), false);
        bench.due("14: sixty, the empty word", desk.language(2), false);
        bench.due("15: sixty", desk.first('A'), 63);
        bench.due("16: sixty", desk.follow('A'), 127);
        bench.due("17: sixty", desk.single(), false);
        bench.due("13: sixty", desk.shape(), 7);
        bench.due("9: sixty", desk.useful(), 0);
        bench.dueOf("10: sixty", desk::solid, 60);
        bench.dueOf("11: sixty", desk::plain, 60);
        bench.dueOf("12: sixty, and one for the letter", desk::greibach, "throws.UnsupportedOperationException");
        Bench.word(desk, "abcdefabcd");
        bench.due("20: sixty", desk.derives(), true);
        bench.dueOf("21: sixty", desk::ways, GrammarModel.waysOf(Bench.text(desk), "abcdefabcd"));
        bench.dueOf("22: sixty", desk::derive, "throws.IllegalStateException");
        bench.due("6: sixty", desk.clear(), 60);
    }
}
