/** Promises 1 to 8: a new object, type, rule, place, drop, clear, rules, symbol. */
public final class RulesTest {
    private static final String REFUSED = "throws.IllegalArgumentException";
    private static final String FULL = "throws.UnsupportedOperationException";
    private static final Bench bench = new Bench();

    public static void main(String[] args) {
        newObject();
        typing();
        rulesAndTheirOrder();
        wrongDrafts();
        sixtyRules();
        dropping();
        clearing();
        symbols();
        bench.end();
    }

    private static void newObject() {
        GrammarDesk desk = new GrammarDesk();
        bench.due("1: NONE", GrammarDesk.NONE, -1);
        bench.due("1: rules", desk.rules(), 0);
        bench.due("1: place", desk.place(), -1);
        bench.due("1: step", desk.step(0), -1);
        bench.due("1: symbol", desk.symbol(0, 0), -1);
        bench.due("1: wipe", desk.wipe(), 0);
        bench.due("1: derives", desk.derives(), false);
        bench.dueOf("1: the draft is empty", desk::rule, REFUSED);
        bench.due("1: its length", desk.place(), 0);
    }

    private static void typing() {
        GrammarDesk desk = new GrammarDesk();
        bench.due("2: below", desk.type((char) 31), false);
        bench.due("2: above", desk.type((char) 127), false);
        bench.due("2: far above", desk.type((char) (65 + 256)), false);
        bench.due("2: highest", desk.type((char) 65535), false);
        bench.due("2: zero", desk.type((char) 0), false);
        bench.due("2: what was refused is not there", Bench.enter(desk, "A:a"), 0);
        bench.due("2: 32", desk.type((char) 32), true);
        bench.due("2: 126", desk.type((char) 126), true);
        Bench.enter(desk, "");
        bench.due("2: 32 can't stand first", desk.place(), 0);
        for (int i = 0; i < 9; i++) {
            bench.due("2: character " + i, desk.type("A:abcdefa".charAt(i)), true);
        }
        bench.due("2: a tenth one", desk.type('a'), false);
        bench.dueOf("2: nine are no rule", desk::rule, REFUSED);
        bench.due("2: the ninth one", desk.place(), 8);
        bench.due("2: room again", desk.type('A'), true);
    }

    private static void rulesAndTheirOrder() {
        GrammarDesk desk = new GrammarDesk();
        bench.due("3: first", Bench.enter(desk, "B:a"), 0);
        bench.due("3: left side before", Bench.enter(desk, "A:abcdef"), 0);
        bench.due("3: fewer symbols before", Bench.enter(desk, "A:ff"), 0);
        bench.due("3: variables before letters", Bench.enter(desk, "A:fH"), 0);
        bench.due("3: by the first difference", Bench.enter(desk, "A:Hf"), 0);
        bench.due("3: by the alphabet", Bench.enter(desk, "A:Ha"), 0);
        bench.due("3: empty", Bench.enter(desk, "A:"), 0);
        bench.due("3: last", Bench.enter(desk, "H:HGFEDC"), 7);
        bench.due("3: there already", Bench.enter(desk, "A:ff"), 4);
        bench.due("3: place", desk.place(), -1);
        bench.due("3: all", Bench.text(desk), "A: A:Ha A:Hf A:fH A:ff A:abcdef B:a H:HGFEDC");
    }

    private static void wrongDrafts() {
        String[] drafts = {"", "A", "a:a", "I:a", "1", ":", "AA", "A;", "A a", "A:I", "A:g", "A:a:", "A:a b", "A:abcdefA",
            "A:abcdef ", "@:", "A:@", "A:`", "A:abcdeP", "Aa"};
        int[] places = {0, 1, 0, 0, 0, 0, 1, 1, 1, 2, 2, 3, 3, 8, 8, 0, 2, 2, 7, 1};
        GrammarDesk desk = Bench.desk("A:b");
        for (int i = 0; i < drafts.length; i++) {
            bench.due("3: draft '" + drafts[i] + "'", Bench.enter(desk, drafts[i]), REFUSED);
            bench.due("4: of draft '" + drafts[i] + "'", desk.place(), places[i]);
        }
        bench.due("3: the draft was taken each time", Bench.enter(desk, "A:a"), 0);
        bench.due("4: of a rule", desk.place(), -1);
        bench.due("3: no wrong one came in", Bench.text(desk), "A:a A:b");
        Bench.enter(desk, "A");
        desk.type('B');
        bench.due("4: of the draft taken last, not of the new one", desk.place(), 1);
        bench.due("3: behind what was typed", Bench.enter(desk, ":"), 2);
    }

    private static GrammarDesk sixty() {
        GrammarDesk desk = new GrammarDesk();
        for (int i = 0; i < 60; i++) {
            Bench.enter(desk, "B:" + "abcdef".charAt(i / 10) + "ABCDEFGHab".charAt(i % 10));
        }
        return desk;
    }

    private static void sixtyRules() {
        GrammarDesk desk = sixty();
        bench.due("3: sixty", desk.rules(), 60);
        String before = Bench.text(desk);
        Bench.enter(desk, "x");
        bench.due("3: a new one", Bench.enter(desk, "A:a"), FULL);
        bench.due("4: it was a rule", desk.place(), -1);
        bench.due("3: none came in", Bench.text(desk), before);
        bench.due("3: one that is there", Bench.enter(desk, "B:fb"), 59);
        bench.due("3: none at all", Bench.enter(desk, "A:ag"), REFUSED);
        bench.due("4: its place", desk.place(), 3);
        desk.drop(0);
        bench.due("3: room again", Bench.enter(desk, "A:a"), 0);
    }

    private static void dropping() {
        GrammarDesk desk = Bench.desk("A:a", "A:b", "B:c");
        bench.due("5: behind the last", desk.drop(3), false);
        bench.due("5: before the first", desk.drop(-1), false);
        bench.due("5: far", desk.drop(Integer.MAX_VALUE), false);
        bench.due("5: least", desk.drop(Integer.MIN_VALUE), false);
        bench.due("5: all there", desk.rules(), 3);
        bench.due("5: the middle", desk.drop(1), true);
        bench.due("5: the others stay", Bench.text(desk), "A:a B:c");
        bench.due("5: the last", desk.drop(1), true);
        bench.due("5: the only one", desk.drop(0), true);
        bench.due("5: of none", desk.drop(0), false);
        GrammarDesk full = sixty();
        bench.due("5: of sixty", full.drop(59), true);
        bench.due("7: then", full.rules(), 59);
    }

    private static void clearing() {
        GrammarDesk desk = Bench.desk("A:a", "A:b", "B:c");
        Bench.word(desk, "ab");
        Bench.type(desk, "A:");
        bench.due("6: how many", desk.clear(), 3);
        bench.due("7: none", desk.rules(), 0);
        bench.due("6: none more", desk.clear(), 0);
        bench.due("6: the draft stays", Bench.enter(desk, "d"), 0);
        bench.due("6: new ones come in", Bench.text(desk), "A:d");
        bench.due("6: the word stays", desk.wipe(), 2);
    }

    private static void symbols() {
        GrammarDesk desk = Bench.desk("A:", "B:aHfAcB");
        bench.due("7: two", desk.rules(), 2);
        int[] due = {'B', 'a', 'H', 'f', 'A', 'c', 'B', -1, -1, -1, -1, -1, -1};
        for (int k = 0; k < due.length; k++) {
            bench.due("8: symbol " + k, desk.symbol(1, k), due[k]);
        }
        bench.due("8: left side of an empty one", desk.symbol(0, 0), (int) 'A');
        bench.due("8: nothing behind it", desk.symbol(0, 1), -1);
        bench.due("8: before", desk.symbol(1, -1), -1);
        bench.due("8: least", desk.symbol(1, Integer.MIN_VALUE), -1);
        bench.due("8: far", desk.symbol(1, Integer.MAX_VALUE), -1);
        bench.due("8: no rule", desk.symbol(2, 0), -1);
        bench.due("8: no rule before", desk.symbol(-1, 0), -1);
        bench.due("8: no rule far", desk.symbol(Integer.MAX_VALUE, 0), -1);
    }
}
