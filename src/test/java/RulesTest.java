/** Promises 1 to 8: a new object, type, rule, place, drop, clear, rules, symbol. */
public final class RulesTest {
    private static final Bench bench = new Bench();

    public static void main(String[] args) {
        newObject();
        newDraft();
        newWord();
        typingCodes();
        typingNine();
        ruleOrdinary();
        ruleOfNoSymbols();
        ruleOfSixSymbols();
        ruleThereAlready();
        ruleWrong();
        ruleTakesTheDraft();
        ruleSixty();
        placeBeforeAnyRule();
        placeOfWrongCharacters();
        placeOfShortDrafts();
        placeOfRules();
        placeStays();
        dropOne();
        dropNone();
        dropOfSixty();
        clear();
        rules();
        symbolsOfOne();
        symbolsBeyond();
        symbolsOfNoRule();
        bench.end();
    }

    private static void newObject() {
        Desk desk = new Desk();
        bench.due("1: NONE", GrammarDesk.NONE, -1);
        bench.due("1: no rules", desk.rules(), 0);
        bench.due("1: no symbol", desk.symbol(0, 0), -1);
        bench.due("1: no rule to drop", desk.drop(0), false);
        bench.due("1: none to clear", desk.clear(), 0);
        bench.due("1: no derivation", desk.step(0), -1);
        bench.due("1: none to be found", Bench.answer(desk::derive), Bench.ARGUMENT);
        bench.due("1: no draft was taken", desk.place(), -1);
        bench.due("1: the word is not produced", desk.derives(), false);
        bench.due("1: objects share nothing", Bench.enter(desk, "A:a") + new Desk().rules(), "00");
    }

    private static void newDraft() {
        Desk desk = new Desk();
        bench.dueOf("1: the draft is empty", desk::rule, Bench.ARGUMENT);
        bench.due("1: its length", desk.place(), 0);
    }

    private static void newWord() {
        bench.due("1: the word is empty", new Desk().wipe(), 0);
        bench.due("1: the empty word is tried", Bench.desk("A:").derives(), true);
    }

    private static void typingCodes() {
        Desk desk = new Desk();
        for (int code : new int[] {0, 9, 10, 31, 127, 128, 255, 256, 'A' + 256, 32767, 32768, 65535}) {
            bench.due("2: code " + code, desk.type((char) code), false);
        }
        bench.due("2: none of these is in the draft", Bench.enter(desk, "A:a"), 0);
        for (int code = 32; code <= 126; code++) {
            bench.due("2: code " + code, new Desk().type((char) code), true);
        }
        desk.type('A');
        bench.due("2: a refused one in the middle", desk.type((char) 127), false);
        bench.due("2: goes behind the draft", Bench.enter(desk, ":b"), 1);
    }

    private static void typingNine() {
        Desk desk = new Desk();
        for (int i = 0; i < 9; i++) {
            bench.due("2: character " + (i + 1), desk.type("A:abcdefa".charAt(i)), true);
        }
        bench.due("2: the tenth", desk.type('a'), false);
        bench.due("2: the tenth, whatever it is", desk.type((char) 0), false);
        bench.dueOf("2: nine are no rule", desk::rule, Bench.ARGUMENT);
        bench.due("2: the ninth was there", desk.place(), 8);
        for (int i = 0; i < 9; i++) {
            bench.due("2: room again for " + (i + 1), desk.type('B'), true);
        }
        bench.due("2: full again", desk.type('B'), false);
    }

    private static void ruleOrdinary() {
        Desk desk = new Desk();
        bench.due("3: the first", Bench.enter(desk, "B:aB"), 0);
        bench.due("3: before it", Bench.enter(desk, "A:b"), 0);
        bench.due("3: behind them", Bench.enter(desk, "C:Cd"), 2);
        bench.due("3: between them", Bench.enter(desk, "A:ba"), 1);
        bench.due("3: all", Bench.text(desk), "A:b A:ba B:aB C:Cd");
    }

    private static void ruleOfNoSymbols() {
        Desk desk = new Desk();
        bench.due("3: 0 symbols", Bench.enter(desk, "A:"), 0);
        bench.due("3: it is there", Bench.text(desk), "A:");
    }

    private static void ruleOfSixSymbols() {
        Desk desk = new Desk();
        bench.due("3: 6 symbols", Bench.enter(desk, "H:HafAHf"), 0);
        bench.due("3: all of them", Bench.text(desk), "H:HafAHf");
        bench.due("3: 7 symbols", Bench.enter(desk, "A:abcdefa"), Bench.ARGUMENT);
        bench.due("3: 7 variables", Bench.enter(desk, "A:ABCDEFG"), Bench.ARGUMENT);
        bench.due("3: none of these came in", Bench.text(desk), "H:HafAHf");
    }

    private static void ruleThereAlready() {
        Desk desk = Bench.desk("A:a", "A:b", "B:c");
        bench.due("3: its number", Bench.enter(desk, "A:b"), 1);
        bench.due("3: the last one's", Bench.enter(desk, "B:c"), 2);
        bench.due("3: nothing changes", Bench.text(desk), "A:a A:b B:c");
    }

    private static void ruleWrong() {
        String[] drafts = {"", "A", "a", ":", "AA", "A;", "A:I", "A:g", "A: ", "A::", "I:a", "a:a", "@:", "H", "A:ab~", " A:a"};
        for (String draft : drafts) {
            Desk desk = Bench.desk("A:b");
            bench.due("3: '" + draft + "' is none", Bench.enter(desk, draft), Bench.ARGUMENT);
            bench.due("3: '" + draft + "' changes nothing", Bench.text(desk), "A:b");
        }
    }

    private static void draftIsEmpty(String when, Desk desk) {
        bench.dueOf("3: the draft is empty " + when, desk::rule, Bench.ARGUMENT);
        bench.due("3: length 0 " + when, desk.place(), 0);
    }

    private static void ruleTakesTheDraft() {
        draftIsEmpty("after a rule", Bench.desk("A:b"));
        Desk desk = Bench.desk("A:b");
        Bench.enter(desk, "A:b");
        draftIsEmpty("after one that was there", desk);
        Bench.enter(desk, "A:bx");
        draftIsEmpty("after a wrong one", desk);
        Bench.enter(desk, "A");
        draftIsEmpty("after a short one", desk);
        desk = sixty();
        Bench.enter(desk, "A:H");
        draftIsEmpty("after a sixty-first", desk);
    }

    /** Twelve rules with one symbol for each of B .. F. */
    private static Desk sixty() {
        Desk desk = new Desk();
        for (int i = 0; i < 60; i++) {
            Bench.enterAll(desk, "BCDEF".charAt(i / 12) + ":" + "ABCDEFabcdef".charAt(i % 12));
        }
        return desk;
    }

    private static void ruleSixty() {
        Desk desk = sixty();
        bench.due("3: sixty", desk.rules(), 60);
        Bench.enter(desk, "x");
        bench.due("3: a new one", Bench.enter(desk, "A:a"), Bench.UNSUPPORTED);
        bench.due("4: it was a rule", desk.place(), -1);
        bench.due("3: sixty still", desk.rules(), 60);
        bench.due("3: the first still", Bench.text(desk, 0), "B:A");
        bench.due("3: the last still", Bench.text(desk, 59), "F:f");
        bench.due("3: a new one behind all", Bench.enter(desk, "H:a"), Bench.UNSUPPORTED);
        bench.due("3: the last that is there", Bench.enter(desk, "F:f"), 59);
        bench.due("3: the first that is there", Bench.enter(desk, "B:A"), 0);
        bench.due("3: no rule at all", Bench.enter(desk, "A:ag"), Bench.ARGUMENT);
        bench.due("4: its place", desk.place(), 3);
        desk.drop(0);
        bench.due("3: room for one", Bench.enter(desk, "A:a"), 0);
        bench.due("3: for one only", Bench.enter(desk, "A:b"), Bench.UNSUPPORTED);
    }

    private static void placeBeforeAnyRule() {
        Desk desk = new Desk();
        bench.due("4: none was taken", desk.place(), -1);
        desk.type('x');
        bench.due("4: none was taken, though one was typed", desk.place(), -1);
    }

    private static void placeOfWrongCharacters() {
        String[] drafts = {"a:a", "I:a", "@:", ":A", " ", "AA", "A;", "A a", "Aa", "A:I", "A:g", "A:@", "A:`", "A::", "A:aG:",
            "A:a b", "A:abcdeP", "A:abcdefA", "A:abcdef ", "A:gI", "x;y", "AxA", "A:abc;ef:"};
        int[] places = {0, 0, 0, 0, 0, 1, 1, 1, 1, 2, 2, 2, 2, 2, 4, 3, 7, 8, 8, 2, 0, 1, 5};
        Desk desk = new Desk();
        for (int i = 0; i < drafts.length; i++) {
            bench.due("4: '" + drafts[i] + "' is none", Bench.enter(desk, drafts[i]), Bench.ARGUMENT);
            bench.due("4: of '" + drafts[i] + "'", desk.place(), places[i]);
        }
    }

    private static void placeOfShortDrafts() {
        Desk desk = new Desk();
        Bench.enter(desk, "A");
        bench.due("4: of A alone", desk.place(), 1);
        Bench.enter(desk, "");
        bench.due("4: of an empty one", desk.place(), 0);
        Bench.enter(desk, "H");
        bench.due("4: of H alone", desk.place(), 1);
        Bench.enter(desk, "I");
        bench.due("4: of I, which can't stand there", desk.place(), 0);
    }

    private static void placeOfRules() {
        Desk desk = new Desk();
        Bench.enter(desk, "A:x");
        bench.due("4: of none", desk.place(), 2);
        Bench.enter(desk, "A:a");
        bench.due("4: of a rule", desk.place(), -1);
        Bench.enter(desk, "A:x");
        Bench.enter(desk, "A:a");
        bench.due("4: of one that was there", desk.place(), -1);
    }

    private static void placeStays() {
        Desk desk = Bench.desk("A:a", "A:B");
        Bench.enter(desk, "A:a;");
        Bench.type(desk, "Ax");
        bench.due("4: of the draft taken last, not of the new one", desk.place(), 3);
        desk.drop(0);
        desk.solid();
        desk.plain();
        desk.greibach();
        desk.useful();
        desk.clear();
        desk.feed('a');
        desk.wipe();
        bench.due("4: after other calls", desk.place(), 3);
    }

    private static void dropOne() {
        Desk desk = Bench.desk("A:a", "A:b", "B:c", "C:");
        bench.due("5: in the middle", desk.drop(1), true);
        bench.due("5: the others move up", Bench.text(desk), "A:a B:c C:");
        bench.due("5: the last", desk.drop(2), true);
        bench.due("5: the others stay", Bench.text(desk), "A:a B:c");
        bench.due("5: the first", desk.drop(0), true);
        bench.due("5: the other one stays", Bench.text(desk), "B:c");
        bench.due("5: the only one", desk.drop(0), true);
        bench.due("5: none is left", desk.rules(), 0);
        bench.due("5: none to drop", desk.drop(0), false);
    }

    private static void dropNone() {
        Desk desk = Bench.desk("A:a", "A:b", "B:c");
        for (int i : new int[] {-1, 3, 4, 59, 60, 64, 256, Integer.MAX_VALUE, Integer.MIN_VALUE}) {
            bench.due("5: rule " + i, desk.drop(i), false);
        }
        bench.due("5: all are there", Bench.text(desk), "A:a A:b B:c");
    }

    private static void dropOfSixty() {
        Desk desk = sixty();
        bench.due("5: behind sixty", desk.drop(60), false);
        bench.due("5: the last of sixty", desk.drop(59), true);
        bench.due("5: the first of sixty", desk.drop(0), true);
        bench.due("5: fifty-eight", desk.rules(), 58);
        bench.due("5: the first then", Bench.text(desk, 0), "B:B");
        bench.due("5: the last then", Bench.text(desk, 57), "F:e");
        bench.due("5: it is gone", desk.drop(58), false);
    }

    private static void clear() {
        Desk desk = Bench.desk("A:a", "A:b", "B:c");
        Bench.word(desk, "ab");
        Bench.type(desk, "A:");
        bench.due("6: how many", desk.clear(), 3);
        bench.due("6: none is left", desk.rules(), 0);
        bench.due("6: no symbol is left", desk.symbol(0, 0), -1);
        bench.due("6: of none", desk.clear(), 0);
        bench.due("6: the draft stays", Bench.enter(desk, "d"), 0);
        bench.due("6: only new ones are there", Bench.text(desk), "A:d");
        bench.due("6: the word stays", desk.wipe(), 2);
        bench.due("6: of one", desk.clear(), 1);
        desk = Bench.desk("A:a", "A:bA");
        desk.shape();
        desk.language(1);
        desk.greibach();
        bench.due("6: after they were cleaned", desk.clear(), 2);
        bench.due("6: none of the cleaned ones is left", desk.rules(), 0);
        bench.due("6: of sixty", sixty().clear(), 60);
    }

    private static void rules() {
        Desk desk = new Desk();
        bench.due("7: none", desk.rules(), 0);
        Bench.enter(desk, "A:a");
        bench.due("7: one", desk.rules(), 1);
        Bench.enter(desk, "A:a");
        bench.due("7: the same again", desk.rules(), 1);
        Bench.enter(desk, "A:x");
        bench.due("7: a wrong one", desk.rules(), 1);
        Bench.enter(desk, "B:a");
        bench.due("7: two", desk.rules(), 2);
        desk.drop(0);
        bench.due("7: one dropped", desk.rules(), 1);
        bench.due("7: sixty", sixty().rules(), 60);
    }

    private static void symbolsOfOne() {
        Desk desk = Bench.desk("A:", "B:aHfAcB");
        int[] due = {'B', 'a', 'H', 'f', 'A', 'c', 'B'};
        for (int k = 0; k < due.length; k++) {
            bench.due("8: symbol " + k, desk.symbol(1, k), due[k]);
        }
        bench.due("8: the left side of an empty one", desk.symbol(0, 0), (int) 'A');
        bench.due("8: nothing behind it", desk.symbol(0, 1), -1);
        desk = Bench.desk("A:Baaaaa", "B:Caaaa", "C:c");
        desk.greibach();
        bench.due("8: the first of ten symbols", desk.symbol(0, 1), (int) 'c');
        bench.due("8: the tenth of ten symbols", desk.symbol(0, 10), (int) 'D');
        bench.due("8: an eleventh", desk.symbol(0, 11), -1);
    }

    private static void symbolsBeyond() {
        Desk desk = Bench.desk("A:", "B:aHfAcB");
        // Codes of symbols lie in one number, and shifts wrap around: so all small numbers are asked for.
        for (int k = 7; k < 80; k++) {
            bench.due("8: symbol " + k, desk.symbol(1, k), -1);
        }
        for (int k : new int[] {-1, -2, -13, 256, 1 << 16, Integer.MAX_VALUE, Integer.MIN_VALUE}) {
            bench.due("8: symbol " + k, desk.symbol(1, k), -1);
            bench.due("8: of an empty one, symbol " + k, desk.symbol(0, k), -1);
        }
    }

    private static void symbolsOfNoRule() {
        Desk desk = Bench.desk("A:", "B:aHfAcB");
        for (int i : new int[] {-1, 2, 3, 59, 60, 61, 256, Integer.MAX_VALUE, Integer.MIN_VALUE}) {
            bench.due("8: the left side of rule " + i, desk.symbol(i, 0), -1);
            bench.due("8: symbol 1 of rule " + i, desk.symbol(i, 1), -1);
        }
        Desk full = sixty();
        bench.due("8: the last of sixty", full.symbol(59, 1), (int) 'f');
        bench.due("8: behind sixty", full.symbol(60, 0), -1);
    }
}
