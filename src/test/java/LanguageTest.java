/** Promises 14 to 17: language, first, follow, single. */
public final class LanguageTest {
    private static final int END = 64;
    /** What is no variable: beside A .. P, letters, and what would be one if it were cut to fewer bits. */
    private static final char[] NO_VARIABLES = {'Q', '@', 'a', 'p', 'Z', ' ', 0, 1, 15, 16, 'A' + 128, 'A' + 256, 'P' + 256, 65535};
    private static final Bench bench = new Bench();

    public static void main(String[] args) {
        noWord();
        finitelyManyNone();
        finitelyMany();
        infinitelyMany();
        finitelyManyUseless();
        emptyWord();
        otherQuestions();
        first();
        firstNothing();
        firstNullable();
        firstUseless();
        follow();
        followStart();
        followNothing();
        followVanishing();
        followUseless();
        single();
        singleNone();
        singleNullable();
        singleUseless();
        nothingChanges();
        ofSixtyRules();
        bench.end();
    }

    private static void noWord() {
        bench.due("14: no rules", new Desk().language(0), true);
        bench.due("14: a word", Bench.desk("A:a").language(0), false);
        bench.due("14: the empty word is one", Bench.desk("A:").language(0), false);
        bench.due("14: never ending", Bench.desk("A:aA").language(0), true);
        bench.due("14: another one than the start", Bench.desk("A:aA", "B:b").language(0), true);
        bench.due("14: over others", Bench.desk("A:BC", "B:b", "C:BB").language(0), false);
        bench.due("14: one of two rules is enough", Bench.desk("A:aA", "A:b").language(0), false);
    }

    private static void finitelyManyNone() {
        bench.due("14: of no rules, none", new Desk().language(1), true);
        bench.due("14: none, though a circle", Bench.desk("A:aA").language(1), true);
        bench.due("14: none of the start", Bench.desk("B:bB", "B:b").language(1), true);
    }

    private static void finitelyMany() {
        bench.due("14: the empty word alone", Bench.desk("A:").language(1), true);
        bench.due("14: one", Bench.desk("A:a").language(1), true);
        bench.due("14: a circle of units", Bench.desk("A:B", "B:A", "B:ab").language(1), true);
        bench.due("14: a unit of itself", Bench.desk("A:A", "A:a").language(1), true);
        bench.due("14: a circle of units beside two letters", Bench.desk("A:C", "C:A", "A:ab").language(1), true);
        bench.due("14: beside what is empty alone", Bench.desk("A:ABB", "A:a", "B:", "B:BB").language(1), true);
        bench.due("14: beside itself, empty alone", Bench.desk("A:AA", "A:").language(1), true);
        bench.due("14: many without a circle", Bench.desk("A:BBBBBB", "B:CCCCCC", "C:a", "C:").language(1), true);
    }

    private static void infinitelyMany() {
        bench.due("14: a circle behind", Bench.desk("A:aA", "A:").language(1), false);
        bench.due("14: a circle in front", Bench.desk("A:Ab", "A:c").language(1), false);
        bench.due("14: a circle in the first rule of all", Bench.desk("A:Ab", "A:ccc").language(1), false);
        bench.due("14: beside a letter and what is empty alone", Bench.desk("A:AaB", "A:a", "B:").language(1), false);
        bench.due("14: a circle over two", Bench.desk("A:B", "B:Ac", "B:ab").language(1), false);
        bench.due("14: beside itself", Bench.desk("A:AA", "A:", "A:a").language(1), false);
        bench.due("14: beside itself with one letter", Bench.desk("A:AA", "A:a").language(1), false);
        bench.due("14: beside what may have a letter", Bench.desk("A:AB", "A:a", "B:", "B:C", "C:c").language(1), false);
        bench.due("14: beside a letter with what is empty alone", Bench.desk("A:AB", "A:", "B:aC", "C:").language(1), false);
        bench.due("14: below the start", Bench.desk("A:aB", "B:CbD", "C:c", "D:B", "D:d").language(1), false);
        bench.due("14: a circle over eight",
            Bench.desk("A:B", "B:C", "C:D", "D:E", "E:F", "F:G", "G:H", "H:aA", "H:").language(1), false);
        bench.due("14: against the alphabet",
            Bench.desk("A:H", "H:G", "G:F", "F:E", "E:D", "D:C", "C:B", "B:Hb", "B:b").language(1), false);
    }

    private static void finitelyManyUseless() {
        bench.due("14: a circle that isn't reached", Bench.desk("A:a", "B:bB", "B:b").language(1), true);
        bench.due("14: a circle that isn't fruitful", Bench.desk("A:a", "A:aB", "B:bB").language(1), true);
        bench.due("14: a circle beside what isn't fruitful", Bench.desk("A:a", "A:bAB", "B:B").language(1), true);
        bench.due("14: a circle reached by what isn't fruitful", Bench.desk("A:a", "A:BC", "B:bB", "B:b").language(1), true);
    }

    private static void emptyWord() {
        bench.due("14: no rules, no empty word", new Desk().language(2), false);
        bench.due("14: at once", Bench.desk("A:").language(2), true);
        bench.due("14: over others", Bench.desk("A:BC", "B:", "C:BB").language(2), true);
        bench.due("14: beside a letter", Bench.desk("A:Ba", "B:").language(2), false);
        bench.due("14: of another", Bench.desk("A:a", "B:").language(2), false);
        bench.due("14: beside what isn't nullable", Bench.desk("A:BC", "B:", "C:c").language(2), false);
    }

    private static void otherQuestions() {
        Desk desk = Bench.desk("A:");
        for (int what : new int[] {-1, -2, 3, 4, 8, 256, 257, 258, 1 << 16, Integer.MAX_VALUE, Integer.MIN_VALUE}) {
            bench.due("14: what " + what, desk.language(what), false);
            bench.due("14: of no rules, what " + what, new Desk().language(what), false);
        }
    }

    private static void first() {
        Desk desk = Bench.desk("A:BCd", "B:b", "B:", "C:cA", "C:");
        bench.due("15: A", desk.first('A'), 2 + 4 + 8);
        bench.due("15: B", desk.first('B'), 2 + END);
        bench.due("15: C", desk.first('C'), 4 + END);
        bench.due("15: all letters", Bench.desk("A:a", "A:b", "A:c", "A:d", "A:e", "A:f", "A:").first('A'), 127);
        bench.due("15: a alone", Bench.desk("A:ab").first('A'), 1);
        bench.due("15: f alone", Bench.desk("A:fa").first('A'), 32);
        bench.due("15: in a circle", Bench.desk("A:Ba", "B:Ab", "B:c").first('A'), 4);
        bench.due("15: over eight", Bench.desk("A:B", "B:C", "C:D", "D:E", "E:F", "F:G", "G:H", "H:f").first('A'), 32);
        bench.due("15: behind itself", Bench.desk("A:Ab", "A:").first('A'), 2 + END);
        bench.due("15: H", Bench.desk("H:e").first('H'), 16);
    }

    private static void firstNothing() {
        Desk desk = Bench.desk("A:BB", "B:B", "C:G");
        bench.due("15: nothing comes", desk.first('A'), 0);
        bench.due("15: but itself", desk.first('B'), 0);
        bench.due("15: but what has no rule", desk.first('C'), 0);
        for (char c = 'D'; c <= 'P'; c++) {
            bench.due("15: without a rule " + c, desk.first(c), 0);
        }
        for (char c : NO_VARIABLES) {
            bench.due("15: no variable " + (int) c, Bench.desk("A:a", "A:").first(c), 0);
        }
        bench.due("15: of no rules", new Desk().first('A'), 0);
    }

    private static void firstNullable() {
        bench.due("15: an empty rule alone", Bench.desk("A:").first('A'), END);
        bench.due("15: empty alone over itself", Bench.desk("A:AA", "A:").first('A'), END);
        bench.due("15: as a whole", Bench.desk("A:BC", "B:b", "B:", "C:c", "C:").first('A'), 2 + 4 + END);
        bench.due("15: not as a whole", Bench.desk("A:BC", "B:b", "B:", "C:c").first('A'), 2 + 4);
        bench.due("15: behind what isn't nullable nothing counts", Bench.desk("A:BC", "B:b", "C:c").first('A'), 2);
        bench.due("15: behind a letter nothing counts", Bench.desk("A:aC", "C:c", "C:").first('A'), 1);
        bench.due("15: the sixth of six", Bench.desk("A:BBBBBf", "B:").first('A'), 32);
        bench.due("15: what vanishes hands on no end", Bench.desk("A:Ba", "B:").first('A'), 1);
    }

    private static void firstUseless() {
        bench.due("15: a rule that isn't fruitful", Bench.desk("A:a", "A:bB").first('A'), 1 + 2);
        bench.due("15: of a variable that isn't fruitful", Bench.desk("A:a", "E:Ef", "E:aE").first('E'), 1);
        bench.due("15: of one that isn't reached", Bench.desk("A:a", "E:e").first('E'), 16);
    }

    private static void follow() {
        Desk desk = Bench.desk("A:BCd", "B:b", "B:", "C:cA", "C:", "D:aEB", "E:e");
        bench.due("16: A", desk.follow('A'), 8 + END);
        bench.due("16: B, also by D", desk.follow('B'), 4 + 8);
        bench.due("16: C", desk.follow('C'), 8);
        bench.due("16: D", desk.follow('D'), 0);
        bench.due("16: E", desk.follow('E'), 2);
        bench.due("16: twice in one rule", Bench.desk("A:BaBb").follow('B'), 3);
        bench.due("16: itself behind itself", Bench.desk("A:BBc", "B:b").follow('B'), 2 + 4);
        bench.due("16: all six letters and the end", Bench.desk("A:BaBbBc", "A:BdBeBf", "A:B").follow('B'), 127);
        bench.due("16: over left sides", Bench.desk("A:aB", "B:bC", "C:c").follow('C'), END);
        bench.due("16: over eight", Bench.desk("A:Bf", "B:C", "C:D", "D:E", "E:F", "F:G", "G:H", "H:a").follow('H'), 32);
        bench.due("16: over eight, against the alphabet",
            Bench.desk("A:Hf", "H:G", "G:F", "F:E", "E:D", "D:C", "C:B", "B:a").follow('B'), 32);
        bench.due("16: beside one behind which nothing new comes",
            Bench.desk("A:BHf", "H:BG", "G:BF", "F:BE", "E:e", "B:b").follow('E'), 32);
    }

    private static void followStart() {
        bench.due("16: the start has the end, without rules", new Desk().follow('A'), END);
        bench.due("16: and with rules where it stands nowhere", Bench.desk("A:a").follow('A'), END);
        bench.due("16: and where a letter is behind it", Bench.desk("A:Ab", "A:a").follow('A'), 2 + END);
    }

    private static void followNothing() {
        Desk desk = Bench.desk("A:a", "B:C", "C:c");
        for (char c = 'B'; c <= 'P'; c++) {
            bench.due("16: nothing behind " + c, desk.follow(c), 0);
            bench.due("16: of no rules " + c, new Desk().follow(c), 0);
        }
        for (char c : NO_VARIABLES) {
            bench.due("16: no variable " + (int) c, Bench.desk("A:AaA").follow(c), 0);
        }
    }

    private static void followVanishing() {
        bench.due("16: one vanishes", Bench.desk("A:BCe", "C:", "C:c").follow('B'), 4 + 16);
        bench.due("16: two vanish", Bench.desk("A:BCDe", "C:", "C:c", "D:", "D:d").follow('B'), 4 + 8 + 16);
        bench.due("16: all vanish", Bench.desk("A:BCC", "C:", "C:c").follow('B'), 4 + END);
        bench.due("16: all but the last vanish", Bench.desk("A:BCD", "C:", "C:c", "D:d").follow('B'), 4 + 8);
        bench.due("16: the end of FIRST is not handed on", Bench.desk("A:Db", "D:BC", "C:", "C:c").follow('B'), 2 + 4);
        bench.due("16: nothing is behind", Bench.desk("A:Db", "D:aB").follow('B'), 2);
    }

    private static void followUseless() {
        bench.due("16: a rule that isn't reached", Bench.desk("A:B", "B:b", "C:Bf").follow('B'), 32 + END);
        bench.due("16: a rule that isn't fruitful", Bench.desk("A:B", "A:BeG", "B:b").follow('B'), 16 + END);
        bench.due("16: without a rule of its own", Bench.desk("A:Gf").follow('G'), 32);
        bench.due("16: behind it what has no rule", Bench.desk("A:BG").follow('B'), 0);
    }

    private static void single() {
        bench.due("17: by letters", Bench.desk("A:aA", "A:b").single(), true);
        bench.due("17: they meet", Bench.desk("A:aA", "A:ab").single(), false);
        bench.due("17: the first and the last meet", Bench.desk("A:a", "A:b", "A:c", "A:ab").single(), false);
        bench.due("17: over variables", Bench.desk("A:B", "A:a", "B:C", "C:a").single(), false);
        bench.due("17: over variables, none meets", Bench.desk("A:B", "A:a", "B:C", "C:b").single(), true);
        bench.due("17: of two variables they may meet", Bench.desk("A:aB", "B:a").single(), true);
        bench.due("17: not of the start alone", Bench.desk("A:bB", "B:a", "B:aB").single(), false);
        bench.due("17: left leads", Bench.desk("A:Aa", "A:b").single(), false);
    }

    private static void singleNone() {
        bench.due("17: no rules", new Desk().single(), true);
        bench.due("17: one rule", Bench.desk("A:AAA").single(), true);
        bench.due("17: what chooses nothing meets nothing", Bench.desk("A:B", "A:C", "B:B", "C:C").single(), true);
    }

    private static void singleNullable() {
        bench.due("17: what is behind chooses", Bench.desk("A:Ba", "B:", "B:b").single(), true);
        bench.due("17: what is behind meets", Bench.desk("A:Ba", "B:", "B:a").single(), false);
        bench.due("17: the end chooses", Bench.desk("A:", "A:a").single(), true);
        bench.due("17: both FIRST and what is behind, of a row that vanishes",
            Bench.desk("A:Ba", "B:C", "B:c", "C:", "C:c").single(), false);
        bench.due("17: two vanish, the end is behind", Bench.desk("A:B", "A:C", "B:", "C:").single(), false);
        bench.due("17: two vanish, a letter is behind", Bench.desk("A:Ba", "B:", "B:C", "C:").single(), false);
        bench.due("17: two vanish, nothing is behind", Bench.desk("A:a", "B:", "B:C", "C:").single(), true);
        bench.due("17: not nullable as a whole", Bench.desk("A:Ba", "B:Cc", "B:a", "C:").single(), true);
        bench.due("17: not nullable, two variables", Bench.desk("A:Ba", "B:CD", "B:a", "C:", "D:d").single(), true);
    }

    private static void singleUseless() {
        bench.due("17: useless ones count", Bench.desk("A:a", "B:bB", "B:bC").single(), false);
        bench.due("17: one useless one meets a useful one", Bench.desk("A:a", "A:aB").single(), false);
    }

    private static void nothingChanges() {
        Desk desk = Bench.desk("A:a", "A:bC", "B:");
        Bench.type(desk, "A:");
        Bench.word(desk, "ab");
        for (int what = -1; what <= 3; what++) {
            desk.language(what);
        }
        desk.first('A');
        desk.follow('A');
        desk.single();
        bench.due("14 to 17: the rules", Bench.text(desk), "A:a A:bC B:");
        bench.due("14 to 17: the word", desk.wipe(), 2);
        bench.due("14 to 17: the draft", Bench.enter(desk, ""), 0);
    }

    private static void ofSixtyRules() {
        String[] ofA = Bench.rulesOf('A', "AB", 36);
        String[] ofB = Bench.rulesOf('B', "AB", 23);
        Desk desk = Bench.desk(ofA);
        Bench.enterAll(desk, ofB);
        Bench.enterAll(desk, "C:c");
        bench.due("7: sixty", desk.rules(), 60);
        bench.due("14: sixty, no word", desk.language(0), false);
        bench.due("14: sixty, finitely many", desk.language(1), false);
        bench.due("14: sixty, the empty word", desk.language(2), false);
        bench.due("15: sixty, the last one", desk.first('C'), 4);
        bench.due("16: sixty", desk.follow('A'), 127);
        bench.due("17: sixty", desk.single(), false);
        Bench.word(desk, "abcdefabcd");
        bench.due("20: sixty", desk.derives(), true);
        String rules = String.join(" ", ofA) + " " + String.join(" ", ofB);
        bench.dueOf("21: sixty", desk::ways, GrammarModel.waysOf(rules, "abcdefabcd"));
        bench.dueOf("22: sixty", desk::derive, 10);
        bench.due("6: sixty", desk.clear(), 60);
        desk = Bench.desk(Bench.rulesOf('A', "AB", 42));
        Bench.fill(desk, 'B', "AB", 18);
        bench.due("14: sixty useful ones", desk.language(1), false);
        desk = Bench.desk(Bench.rulesOf('A', "BC", 42));
        Bench.fill(desk, 'B', "C", 12);
        Bench.fill(desk, 'C', "", 6);
        bench.due("14: sixty useful ones without a circle", desk.language(1), true);
    }
}
