import java.util.function.Consumer;

/** Promises 18 to 23: feed, wipe, derives, ways, derive, step. */
public final class WordTest {
    private static final Bench bench = new Bench();

    public static void main(String[] args) {
        feedLetters();
        feedOthers();
        feedTen();
        wipe();
        derivesOrdinary();
        derivesEmptyWord();
        derivesTenLetters();
        derivesNot();
        ways();
        waysNone();
        waysOfAMillion();
        waysThatWrapAround();
        waysRefused();
        derive();
        deriveTenLetters();
        deriveTheLeast();
        deriveNotInTheForm();
        deriveNotProduced();
        stepsOutside();
        stepsWithoutDerivation();
        stepsAfterChanges();
        stepsAfterNoChange();
        stepsAfterRefusedCalls();
        bench.end();
    }

    private static void feedLetters() {
        for (char c = 'a'; c <= 'f'; c++) {
            Desk desk = Bench.desk("A:" + c);
            bench.due("18: " + c, desk.feed(c), true);
            bench.due("18: it is " + c, desk.derives(), true);
        }
        Desk desk = Bench.desk("A:ab");
        desk.feed('a');
        desk.feed('b');
        bench.due("18: behind the word", desk.derives(), true);
    }

    private static void feedOthers() {
        Desk desk = Bench.desk("A:aa");
        desk.feed('a');
        for (char c : new char[] {'g', '`', 'A', 'F', 'P', ' ', 0, 1, 'a' + 128, 'a' + 256, 'f' + 256, 65535}) {
            bench.due("18: no letter " + (int) c, desk.feed(c), false);
        }
        desk.feed('a');
        bench.due("18: none of these came in", desk.derives(), true);
        bench.due("19: nor counts", desk.wipe(), 2);
    }

    private static void feedTen() {
        Desk desk = Bench.desk("A:abcdB", "B:efabcd");
        for (int i = 0; i < 10; i++) {
            bench.due("18: letter " + (i + 1), desk.feed("abcdefabcd".charAt(i)), true);
        }
        bench.due("18: an eleventh", desk.feed('e'), false);
        bench.due("18: nor what is no letter", desk.feed('g'), false);
        bench.due("18: the ten are as they were", desk.derives(), true);
        bench.due("19: ten", desk.wipe(), 10);
        bench.due("18: room again", desk.feed('f'), true);
        bench.due("19: one", desk.wipe(), 1);
    }

    private static void wipe() {
        Desk desk = Bench.desk("A:", "B:b");
        bench.due("19: of none", desk.wipe(), 0);
        Bench.word(desk, "abc");
        bench.due("19: not the empty word", desk.derives(), false);
        bench.due("19: how many", desk.wipe(), 3);
        bench.due("19: empty then", desk.derives(), true);
        bench.due("19: none then", desk.wipe(), 0);
        bench.due("19: the rules stay", Bench.text(desk), "A: B:b");
    }

    private static boolean derives(Desk desk, String word) {
        Bench.word(desk, word);
        return desk.derives();
    }

    private static void derivesOrdinary() {
        Desk desk = Bench.desk("A:aAb", "A:");
        bench.due("20: ab", derives(desk, "ab"), true);
        bench.due("20: ba", derives(desk, "ba"), false);
        bench.due("20: aabb", derives(desk, "aabb"), true);
        bench.due("20: aab", derives(desk, "aab"), false);
        desk = Bench.desk("A:AA", "A:B", "A:", "B:A", "B:aCb", "C:CC", "C:", "C:A");
        bench.due("20: with units, circles and empty rules", derives(desk, "aabbabab"), true);
        bench.due("20: not this", derives(desk, "aabbabba"), false);
        desk = Bench.desk("A:BaC", "B:a", "B:aa", "C:ab", "C:b");
        bench.due("20: the shorter one in front", derives(desk, "aaab"), true);
        bench.due("20: either one in front", derives(desk, "aab"), true);
        bench.due("20: the longer one in front", derives(desk, "aaaab"), true);
        desk = Bench.desk("A:BaC", "B:a", "B:aa", "C:ab");
        bench.due("20: only the shorter one in front", derives(desk, "aaab"), true);
    }

    private static void derivesEmptyWord() {
        bench.due("20: the empty word", derives(Bench.desk("A:"), ""), true);
        bench.due("20: the empty word over others", derives(Bench.desk("A:BB", "B:C", "C:"), ""), true);
        bench.due("20: not the empty word", derives(Bench.desk("A:a", "B:"), ""), false);
        bench.due("20: the empty word of no rules", derives(new Desk(), ""), false);
        bench.due("20: another word than the empty one", derives(Bench.desk("A:"), "a"), false);
    }

    private static void derivesTenLetters() {
        Desk desk = Bench.desk("A:aAb", "A:");
        bench.due("20: five and five", derives(desk, "aaaaabbbbb"), true);
        bench.due("20: five and four", derives(desk, "aaaaabbbb"), false);
        bench.due("20: six and four", derives(desk, "aaaaaabbbb"), false);
        bench.due("20: all ten count", derives(Bench.desk("A:abcBef", "B:fedcd"), "abcfedcdef"), true);
        bench.due("20: the tenth counts", derives(Bench.desk("A:abcBef", "B:fedcd"), "abcfedcdee"), false);
        // What is empty is found from behind, a rule more each time, in any order of the rules.
        desk = Bench.desk("A:aB", "B:CHb", "C:D", "D:E", "E:F", "F:G", "G:", "H:G", "G:cG");
        bench.due("20: over eight", derives(desk, "accccccccb"), true);
    }

    private static void derivesNot() {
        bench.due("20: another start", derives(Bench.desk("B:b"), "b"), false);
        bench.due("20: no rules", derives(new Desk(), "a"), false);
        bench.due("20: a part is not the word", derives(Bench.desk("A:a"), "aa"), false);
        bench.due("20: more than the word", derives(Bench.desk("A:aaa"), "aa"), false);
        bench.due("20: never ending", derives(Bench.desk("A:aA"), "aaa"), false);
        bench.due("20: by what has no rule", derives(Bench.desk("A:aB"), "a"), false);
        bench.due("20: what isn't nullable is not left out in front", derives(Bench.desk("A:Ba", "B:b"), "a"), false);
        bench.due("20: nor behind", derives(Bench.desk("A:aB", "B:b"), "a"), false);
        bench.due("20: nor between", derives(Bench.desk("A:aBa", "B:b"), "aa"), false);
    }

    private static String ways(Desk desk, String word) {
        Bench.word(desk, word);
        return Bench.answer(desk::ways);
    }

    private static void ways() {
        Desk desk = Bench.desk("A:AA", "A:a");
        int[] catalan = {0, 1, 1, 2, 5, 14, 42, 132, 429, 1430, 4862};
        for (int n = 0; n < catalan.length; n++) {
            bench.due("21: " + n + " letters", ways(desk, "a".repeat(n)), catalan[n]);
        }
        bench.due("21: by two rules", ways(Bench.desk("A:Bb", "A:aC", "B:a", "C:b"), "ab"), 2);
        bench.due("21: leftmost, so the order of the others is no other way", ways(Bench.desk("A:BC", "B:a", "C:b"), "ab"), 1);
        bench.due("21: useless rules add none", ways(Bench.desk("A:a", "A:aD", "B:a"), "a"), 1);
        bench.due("21: letters inside", ways(Bench.desk("A:aAbAc", "A:AdA", "A:e"), "aebededec"), 2);
    }

    private static void waysNone() {
        bench.due("21: not produced", ways(Bench.desk("A:AA", "A:a"), "ab"), 0);
        bench.due("21: the empty word", ways(Bench.desk("A:AA", "A:a"), ""), 0);
        bench.due("21: no rules", ways(new Desk(), "a"), 0);
        bench.due("21: no rules, the empty word", ways(new Desk(), ""), 0);
        bench.due("21: none of the start", ways(Bench.desk("B:b"), "b"), 0);
        bench.due("21: never ending", ways(Bench.desk("A:AA", "A:aA"), "aaaaaaaaaa"), 0);
    }

    /** B derives aa in 25 ways and H in 8, so A derives ten letters in 25 * 25 * 25 * 8 * 8 ways. */
    private static Desk million() {
        Desk desk = Bench.desk("A:BBBHH", "C:a", "D:a", "E:a", "F:a");
        for (int i = 0; i < 25; i++) {
            Bench.enterAll(desk, "B:" + "aCDEF".charAt(i / 5) + "aCDEF".charAt(i % 5));
        }
        for (int i = 0; i < 8; i++) {
            Bench.enterAll(desk, "H:" + "aCDEF".charAt(i / 5) + "aCDEF".charAt(i % 5));
        }
        return desk;
    }

    private static void waysOfAMillion() {
        Desk desk = million();
        bench.due("21: a million", ways(desk, "a".repeat(10)), 1000000);
        bench.due("21: none of nine letters", ways(desk, "a".repeat(9)), 0);
        desk.drop(1 + 24);
        bench.due("21: less than a million", ways(desk, "a".repeat(10)), 24 * 24 * 24 * 8 * 8);
        desk = million();
        Bench.enterAll(desk, "A:aaaaaG", "G:aaaaa");
        bench.due("21: one more than a million", ways(desk, "a".repeat(10)), 1000000);
        desk = million();
        Bench.enterAll(desk, "H:FF");
        bench.due("21: more than a million", ways(desk, "a".repeat(10)), 1000000);
    }

    /** Three variables, each with so many rules of two of them: so many times more by each letter. */
    private static Desk pairs(int count) {
        Desk desk = new Desk();
        for (char left : "ABC".toCharArray()) {
            Bench.enterAll(desk, left + ":a");
            for (int i = 0; i < count; i++) {
                Bench.enterAll(desk, left + ":" + "ABC".charAt(i / 3) + "ABC".charAt(i % 3));
            }
        }
        return desk;
    }

    private static void waysThatWrapAround() {
        bench.due("21: 8 * 8 * 8 * 5 ways", ways(pairs(8), "a".repeat(4)), 2560);
        bench.due("21: 2431 * 2 ^ 28 ways", ways(pairs(8), "a".repeat(10)), 1000000);
        bench.due("21: 9 ^ 9 * 4862 ways", ways(pairs(9), "a".repeat(10)), 1000000);
        Desk desk = pairs(9);
        Bench.enterAll(desk, "A:bB");
        bench.due("21: far more for a part that isn't used", ways(desk, "aaaaaaaaab"), 0);
    }

    private static void waysRefused() {
        bench.due("21: an empty rule", ways(Bench.desk("A:a", "A:"), "a"), Bench.STATE);
        bench.due("21: an empty rule that is useless", ways(Bench.desk("A:a", "B:"), "a"), Bench.STATE);
        bench.due("21: a unit", ways(Bench.desk("A:a", "A:B"), "a"), Bench.STATE);
        bench.due("21: a unit that is useless", ways(Bench.desk("A:a", "B:C"), "a"), Bench.STATE);
        bench.due("21: a unit of itself", ways(Bench.desk("A:a", "A:A"), "a"), Bench.STATE);
        bench.due("21: also with the empty word", ways(Bench.desk("A:"), ""), Bench.STATE);
        Desk desk = Bench.desk("A:a", "B:C");
        ways(desk, "a");
        bench.due("21: nothing changes", Bench.text(desk) + desk.wipe(), "A:a B:C1");
    }

    private static String derive(Desk desk, String word) {
        Bench.word(desk, word);
        return Bench.answer(desk::derive) + ": " + Bench.steps(desk);
    }

    private static void derive() {
        Desk desk = Bench.desk("A:aAB", "A:b", "B:b");
        bench.due("22: five rules", derive(desk, "aabbb"), "5: 1 1 0 2 2");
        bench.due("22: one rule", derive(desk, "b"), "1: 0");
        bench.dueOf("22: again", desk::derive, 1);
        bench.due("23: again", Bench.steps(desk), "0");
        bench.due("22: always the leftmost", derive(Bench.desk("A:aBC", "B:bD", "C:c", "D:d"), "abdc"), "4: 0 1 3 2");
    }

    private static void deriveTenLetters() {
        bench.due("22: ten rules", derive(Bench.desk("A:aB", "A:aA", "B:b"), "aaaaaaaaab"), "10: 0 0 0 0 0 0 0 0 1 2");
        Desk desk = Bench.desk("A:Baaaaa", "B:Caaaa", "C:c");
        desk.greibach();
        bench.due("22: a rule of ten symbols", derive(desk, "caaaaaaaaa"), "10: 0 3 3 3 3 3 3 3 3 3");
        desk = Bench.desk("A:aAAAAA", "A:b");
        bench.due("22: more variables than letters are left", derive(desk, "aaaaaaaaaa"), Bench.ARGUMENT + ": ");
    }

    private static void deriveTheLeast() {
        Desk desk = Bench.desk("A:a", "A:aA", "A:aAA", "A:aAAA");
        bench.due("22: the least, number by number", derive(desk, "aaaaa"), "5: 1 1 1 1 0");
        desk = Bench.desk("A:aBC", "A:aCB", "B:b", "B:bB", "C:b", "C:bC");
        bench.due("22: the first number first", derive(desk, "abbbb"), "5: 0 2 5 5 4");
        desk = Bench.desk("A:aB", "A:aC", "B:bB", "B:c", "C:bD", "D:d");
        bench.due("22: none that leads nowhere", derive(desk, "abd"), "3: 1 4 5");
        desk = Bench.desk("A:aBB", "B:b", "B:bB", "B:bBB");
        bench.due("22: all of the word", derive(desk, "abbbbb"), "6: 0 1 2 2 2 1");
    }

    private static void deriveNotInTheForm() {
        bench.due("22: an empty rule", derive(Bench.desk("A:a", "B:"), "a"), Bench.STATE + ": ");
        bench.due("22: a unit", derive(Bench.desk("A:a", "B:A"), "a"), Bench.STATE + ": ");
        bench.due("22: a letter inside", derive(Bench.desk("A:a", "A:ab"), "a"), Bench.STATE + ": ");
        bench.due("22: a variable first", derive(Bench.desk("A:a", "A:Aa"), "a"), Bench.STATE + ": ");
        bench.due("22: also if the word isn't produced", derive(Bench.desk("A:ab"), "b"), Bench.STATE + ": ");
        bench.due("22: useless rules may be there", derive(Bench.desk("A:b", "B:bC"), "b"), "1: 0");
    }

    private static void deriveNotProduced() {
        Desk desk = Bench.desk("A:aA", "A:b");
        bench.due("22: not produced", derive(desk, "aa"), Bench.ARGUMENT + ": ");
        bench.due("22: the empty word", derive(desk, ""), Bench.ARGUMENT + ": ");
        bench.due("22: no rules are in the form", derive(new Desk(), "a"), Bench.ARGUMENT + ": ");
        bench.due("22: no rules, the empty word", derive(new Desk(), ""), Bench.ARGUMENT + ": ");
        bench.due("22: found", derive(desk, "ab"), "2: 1 0");
        desk.feed('b');
        bench.dueOf("22: then not", desk::derive, Bench.ARGUMENT);
        bench.due("22: no derivation then", Bench.steps(desk), "");
        bench.due("22: rules and word stay", Bench.text(desk) + desk.wipe(), "A:b A:aA3");
    }

    private static void stepsOutside() {
        Desk desk = Bench.desk("A:aAB", "A:b", "B:b");
        derive(desk, "aabbb");
        bench.due("23: the first", desk.step(0), 1);
        bench.due("23: the last", desk.step(4), 2);
        for (int k : new int[] {-1, 5, 6, 9, 10, 11, 16, 64, 256, Integer.MAX_VALUE, Integer.MIN_VALUE}) {
            bench.due("23: step " + k, desk.step(k), -1);
        }
        desk = Bench.desk("A:a", "A:aA");
        derive(desk, "aaaaaaaaaa");
        bench.due("23: the tenth", desk.step(9), 0);
        bench.due("23: behind the tenth", desk.step(10), -1);
        derive(desk, "a");
        bench.due("23: of a shorter one", desk.step(0), 0);
        bench.due("23: no more of the longer one", desk.step(1), -1);
    }

    private static void stepsWithoutDerivation() {
        bench.due("23: of a new object", new Desk().step(0), -1);
        Desk desk = Bench.desk("A:a");
        Bench.word(desk, "a");
        bench.due("23: none was asked for", desk.step(0), -1);
        desk.derives();
        desk.ways();
        bench.due("23: other calls find none", desk.step(0), -1);
    }

    private static final String STEPS = "1 1 1 1 1 1 1 1 1 0";

    /** Ten letters, and rules of which B:b is useless. */
    private static Desk derived() {
        Desk desk = Bench.desk("A:aA", "A:b", "B:b");
        bench.due("22: derived", derive(desk, "aaaaaaaaab"), "10: " + STEPS);
        return desk;
    }

    private static void endsIt(String what, Consumer<Desk> change) {
        Desk desk = derived();
        change.accept(desk);
        bench.due("23: " + what, Bench.steps(desk), "");
    }

    private static void stepsAfterChanges() {
        endsIt("a new rule", desk -> Bench.enterAll(desk, "C:c"));
        endsIt("a new rule that is gone again", desk -> {
            Bench.enterAll(desk, "C:c");
            desk.drop(3);
        });
        endsIt("a rule dropped", desk -> desk.drop(2));
        endsIt("a rule dropped and typed again", desk -> {
            desk.drop(2);
            Bench.enterAll(desk, "B:b");
        });
        endsIt("cleared", Desk::clear);
        endsIt("useless rules gone", Desk::useful);
        endsIt("useless rules gone by greibach", Desk::greibach);
        endsIt("cleaned of an empty rule", desk -> {
            Bench.enterAll(desk, "C:");
            desk.solid();
        });
        endsIt("wiped", Desk::wipe);
        endsIt("another word", desk -> Bench.word(desk, "ab"));
        endsIt("the same word fed again", desk -> Bench.word(desk, "aaaaaaaaab"));
        Desk desk = Bench.desk("A:aA", "A:b");
        derive(desk, "ab");
        desk.feed('b');
        bench.due("23: a letter more", desk.step(0), -1);
        desk = derived();
        Bench.word(desk, "aab");
        bench.dueOf("22: found anew", desk::derive, 3);
        bench.due("23: found anew", Bench.steps(desk), "1 1 0");
    }

    private static void keepsIt(String what, Consumer<Desk> call) {
        Desk desk = derived();
        call.accept(desk);
        bench.due("23: " + what, Bench.steps(desk), STEPS);
    }

    private static void stepsAfterNoChange() {
        keepsIt("a draft typed", desk -> Bench.type(desk, "C:c"));
        keepsIt("a rule that was there", desk -> Bench.enterAll(desk, "A:b"));
        keepsIt("no empty rules to clean of", Desk::solid);
        keepsIt("no units to clean of", Desk::plain);
        keepsIt("place", Desk::place);
        keepsIt("rules", Desk::rules);
        keepsIt("symbol", desk -> desk.symbol(0, 0));
        keepsIt("shape", Desk::shape);
        keepsIt("language", desk -> {
            desk.language(0);
            desk.language(1);
            desk.language(2);
        });
        keepsIt("first, follow, single", desk -> {
            desk.first('A');
            desk.follow('A');
            desk.single();
        });
        keepsIt("derives", Desk::derives);
        keepsIt("ways", Desk::ways);
        keepsIt("derive", Desk::derive);
        Desk desk = Bench.desk("A:aA", "A:b");
        derive(desk, "ab");
        desk.useful();
        bench.due("23: no useless rules to go", Bench.steps(desk), "1 0");
        desk.greibach();
        bench.due("23: Greibach's form already", Bench.steps(desk), "1 0");
    }

    private static void stepsAfterRefusedCalls() {
        keepsIt("a character refused", desk -> desk.type((char) 127));
        keepsIt("a draft that is no rule", desk -> Bench.enter(desk, "C:x"));
        keepsIt("an empty draft", desk -> Bench.enter(desk, ""));
        keepsIt("no rule to drop", desk -> {
            desk.drop(3);
            desk.drop(-1);
        });
        keepsIt("a letter too many", desk -> desk.feed('a'));
        keepsIt("no letter", desk -> desk.feed('g'));
        Desk desk = new Desk();
        Bench.fill(desk, 'A', "AB", 42);
        Bench.fill(desk, 'B', "AB", 18);
        bench.due("22: of sixty", derive(desk, "a"), "1: 0");
        bench.due("23: a sixty-first", Bench.enter(desk, "A:aa"), Bench.UNSUPPORTED);
        bench.due("23: keeps it", Bench.steps(desk), "0");
    }
}
