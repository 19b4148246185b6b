/** Promises 9 to 13: useful, solid, plain, greibach, shape. */
public final class CleaningTest {
    private static final String FULL = "throws.UnsupportedOperationException";
    private static final Bench bench = new Bench();

    public static void main(String[] args) {
        useful();
        solid();
        solidTooMany();
        plain();
        plainTooMany();
        greibachOrdinary();
        greibachSteps();
        greibachTooLong();
        greibachTooManyRules();
        greibachTooManyTails();
        greibachTooManyBeforeUseless();
        greibachTooManyReplacements();
        greibachTooManyVariables();
        shape();
        bench.end();
    }

    private static void useful() {
        GrammarDesk desk = Bench.desk("A:aB", "A:b", "A:aD", "B:b", "C:c", "D:dD", "E:C", "F:D");
        bench.due("9: how many", desk.useful(), 5);
        bench.due("9: what stays", Bench.text(desk), "A:b A:aB B:b");
        bench.due("9: again", desk.useful(), 0);
        // B is reached only by a rule that goes for D, so it goes too, in this order.
        desk = Bench.desk("A:a", "A:BD", "B:b");
        bench.due("9: first the unfruitful", desk.useful(), 2);
        bench.due("9: then the unreached", Bench.text(desk), "A:a");
        desk = Bench.desk("A:A", "A:Bc", "B:A", "C:c");
        bench.due("9: an unfruitful start", desk.useful(), 4);
        desk = Bench.desk("B:b", "C:c");
        bench.due("9: a start without rules", desk.useful(), 2);
        desk = Bench.desk("A:", "A:BB", "B:");
        bench.due("9: empty rules are fruitful", desk.useful(), 0);
        bench.due("9: of none", new GrammarDesk().useful(), 0);
    }

    private static void solid() {
        GrammarDesk desk = Bench.desk("A:BaB", "B:", "B:b");
        bench.dueOf("10: how many", desk::solid, 5);
        bench.due("10: none, some or all", Bench.text(desk), "A:a A:Ba A:aB A:BaB B:b");
        desk = Bench.desk("A:BC", "B:", "C:B", "D:A", "E:aD");
        desk.solid();
        bench.due("10: nullable by others, useless ones too", Bench.text(desk), "A:B A:C A:BC C:B D:A E:a E:aD");
        desk = Bench.desk("A:AA", "A:");
        desk.solid();
        bench.due("10: of itself", Bench.text(desk), "A:A A:AA");
        desk = Bench.desk("A:aB", "B:b");
        bench.dueOf("10: nothing to do", desk::solid, 2);
        bench.due("10: nothing done", Bench.text(desk), "A:aB B:b");
        desk = Bench.desk("A:");
        bench.dueOf("10: no rule is left", desk::solid, 0);
        bench.dueOf("10: of none", new GrammarDesk()::solid, 0);
        desk = Bench.desk("A:AAAAAA", "A:");
        bench.dueOf("10: none twice", desk::solid, 6);
    }

    /** B .. H have empty rules, A:BCDEF becomes 32 rules, one of them empty, and H has 21 more: sixty. */
    private static GrammarDesk sixtyOnTheWay() {
        GrammarDesk desk = Bench.desk("B:", "C:", "D:", "E:", "F:", "G:", "H:", "A:BCDEF");
        fill(desk, "H:", 21);
        return desk;
    }

    private static void solidTooMany() {
        GrammarDesk desk = sixtyOnTheWay();
        bench.due("10: before", desk.rules(), 29);
        bench.dueOf("10: sixty with the empty ones, then eight less", desk::solid, 52);
        desk = sixtyOnTheWay();
        Bench.enter(desk, "A:bbbbbb");
        String before = Bench.text(desk);
        Bench.type(desk, "A");
        bench.dueOf("10: sixty-one with the empty ones", desk::solid, FULL);
        bench.due("10: all as it was", Bench.text(desk), before);
        bench.due("10: the draft too", Bench.enter(desk, ":a"), 0);
        desk = Bench.desk("A:B", "B:");
        fill(desk, "C:", 58);
        bench.dueOf("10: sixty, and one more of the first", desk::solid, FULL);
        desk = Bench.desk("A:B", "A:", "B:");
        fill(desk, "C:", 57);
        bench.dueOf("10: sixty, and no more of them", desk::solid, 58);
    }

    /** Adds rules of letters alone to a variable, from aaa on. */
    private static void fill(GrammarDesk desk, String left, int count) {
        for (int i = 0; i < count; i++) {
            Bench.enter(desk, left + "abcdef".charAt(i / 36) + "abcdef".charAt(i / 6 % 6) + "abcdef".charAt(i % 6));
        }
    }

    private static void plain() {
        GrammarDesk desk = Bench.desk("A:B", "A:a", "B:C", "B:bB", "C:", "C:cA", "D:A");
        bench.dueOf("11: how many", desk::plain, 13);
        bench.due("11: over several units, empty ones too", Bench.text(desk),
            "A: A:a A:bB A:cA B: B:bB B:cA C: C:cA D: D:a D:bB D:cA");
        desk = Bench.desk("A:B", "B:A", "B:b", "A:A");
        desk.plain();
        bench.due("11: a circle", Bench.text(desk), "A:b B:b");
        desk = Bench.desk("A:B");
        bench.dueOf("11: nothing behind it", desk::plain, 0);
        desk = Bench.desk("A:a", "A:BB", "B:b");
        bench.dueOf("11: nothing to do", desk::plain, 3);
        bench.dueOf("11: of none", new GrammarDesk()::plain, 0);
    }

    private static void plainTooMany() {
        GrammarDesk desk = Bench.desk("A:B");
        fill(desk, "B:", 29);
        Bench.enter(desk, "C:c");
        bench.due("11: before", desk.rules(), 31);
        bench.dueOf("11: sixty with the unit", desk::plain, 59);
        desk = Bench.desk("A:B");
        fill(desk, "B:", 29);
        Bench.enter(desk, "C:c");
        Bench.enter(desk, "C:d");
        String before = Bench.text(desk);
        bench.dueOf("11: sixty-one with the unit", desk::plain, FULL);
        bench.due("11: all as it was", Bench.text(desk), before);
    }

    private static String made(String... rules) {
        GrammarDesk desk = Bench.desk(rules);
        String count = Bench.answer(desk::greibach);
        return count + " " + Bench.text(desk);
    }

    private static void greibachOrdinary() {
        bench.due("12: own leads", made("A:AA", "A:a"), "5 A:a A:aB B:a B:aB B:aBB");
        bench.due("12: letters inside", made("A:aba", "A:b"), "4 A:b A:aCB B:a C:b");
        bench.due("12: earlier leads", made("A:aB", "B:Ab", "B:b"), "4 A:aB B:b B:aBC C:b");
        bench.due("12: later leads", made("A:Ba", "B:b", "B:c"), "5 A:bC A:cC B:b B:c C:a");
        bench.due("12: cleaned first", made("A:BC", "B:", "B:b", "C:D", "D:d", "E:e", "F:Fa"), "4 A:d A:bC B:b C:d");
        bench.due("12: in the form already", made("A:aAB", "A:b", "B:b"), "3 A:b A:aAB B:b");
        bench.due("12: useless rules go also then", made("A:b", "B:b"), "1 A:b");
        bench.due("12: none is useful", made("A:aA", "B:b"), "0 ");
        bench.due("12: the empty word alone", made("A:"), "0 ");
        bench.due("12: of none", made(), "0 ");
        GrammarDesk desk = Bench.desk("A:", "A:aA");
        desk.greibach();
        bench.due("12: the empty word is produced no more", desk.language(2), false);
        Bench.word(desk, "aa");
        bench.due("12: the others are", desk.derives(), true);
    }

    private static void greibachSteps() {
        bench.due("12: Z is the first free one, also before X", made("A:AC", "A:a", "C:Cb", "C:c"),
            "10 A:a A:aB B:c B:cB B:cD B:cDB C:c C:cD D:b D:bD");
        bench.due("12: all steps", made("A:Ba", "A:b", "B:BA", "B:Ab", "B:c"),
            "23 A:b A:cD A:bED A:cCD A:bECD B:c B:bE B:cC B:bEC C:b C:aE C:bC C:cD C:aEC C:bED C:cCD C:cDC C:bECD C:bEDC"
                + " C:cCDC C:bECDC D:a E:b");
        bench.due("12: a free one stands in no rule either", made("A:Ab", "A:cB", "B:b", "D:d"), "5 A:cB A:cBC B:b C:b C:bC");
    }

    private static void greibachTooLong() {
        // A:Baaaaa, B:Caaaaa, C:c: A would begin with c and ten letters more.
        bench.due("12: eleven symbols", made("A:Baaaaa", "B:Caaaaa", "C:c"),
            FULL + " A:Baaaaa B:Caaaaa C:c");
        bench.due("12: ten symbols", made("A:Baaaaa", "B:Caaaa", "C:c"), "4 A:cDDDDDDDDD B:cDDDD C:c D:a");
        // The tail is one symbol more: B begins with ten and gets no tail.
        bench.due("12: a tail too long", made("A:bbbbbB", "A:b", "B:Abbbb", "B:Bb"),
            FULL + " A:b A:bbbbbB B:Bb B:Abbbb");
        bench.due("12: a tail just fits", made("A:bbbbB", "A:b", "B:Abbbb", "B:Bb"),
            "9 A:b A:bDDDB B:bDDDD B:bDDDDC B:bDDDBDDDD B:bDDDBDDDDC C:b C:bC D:b");
        GrammarDesk desk = Bench.desk("A:Baaaaa", "B:Caaaaa", "C:c");
        Bench.type(desk, "A:");
        Bench.word(desk, "aaa");
        bench.dueOf("12: refused", desk::greibach, FULL);
        bench.due("12: the draft stays", Bench.enter(desk, "d"), 0);
        bench.due("12: the word stays", desk.wipe(), 3);
    }

    private static void greibachTooManyRules() {
        // A:Ba becomes as many rules as B has, and the letter a has a rule of its own.
        GrammarDesk desk = Bench.desk("A:Ba", "A:a");
        fillB(desk, 29);
        bench.dueOf("12: sixty", desk::greibach, 60);
        desk = Bench.desk("A:Ba", "A:a", "A:b");
        fillB(desk, 29);
        String before = Bench.text(desk);
        bench.dueOf("12: sixty-one by the letter's rule", desk::greibach, FULL);
        bench.due("12: all as it was", Bench.text(desk), before);
        desk = Bench.desk("A:BA", "A:a");
        fillB(desk, 29);
        bench.dueOf("12: without a letter inside", desk::greibach, 59);
        desk = Bench.desk("A:BA", "A:a", "A:b");
        fillB(desk, 29);
        bench.dueOf("12: sixty by the replacement", desk::greibach, 60);
        desk = Bench.desk("A:BA", "A:a", "A:b", "A:c");
        fillB(desk, 29);
        bench.dueOf("12: sixty-one by the replacement", desk::greibach, FULL);
    }

    /** Ten rules with own leads become twenty of a tail, and twenty others become forty. */
    private static GrammarDesk tails() {
        GrammarDesk desk = Bench.desk("A:AaA", "A:AbA", "A:AcA", "A:AdA", "A:aAAA");
        for (char letter : "abcdef".toCharArray()) {
            for (String rule : new String[] {"A:A" + letter, "A:" + letter, "A:" + letter + "A", "A:" + letter + "AA"}) {
                Bench.enter(desk, rule);
            }
        }
        return desk;
    }

    private static void greibachTooManyTails() {
        GrammarDesk desk = tails();
        Bench.enter(desk, "A:bAAA");
        bench.due("12: before", desk.rules(), 30);
        bench.dueOf("12: sixty by the tails", desk::greibach, 60);
        desk = tails();
        Bench.enter(desk, "A:bB");
        Bench.enter(desk, "B:b");
        bench.dueOf("12: sixty-one by the tails", desk::greibach, FULL);
        bench.due("12: all as it was", desk.rules(), 31);
    }

    /** Useless rules go last of what is cleaned, and so they count for the others. */
    private static void greibachTooManyBeforeUseless() {
        bench.dueOf("12: sixty by the empty ones", sixtyOnTheWay()::greibach, 0);
        GrammarDesk desk = sixtyOnTheWay();
        Bench.enter(desk, "G:GaG");
        String before = Bench.text(desk);
        bench.dueOf("12: more by the empty ones", desk::greibach, FULL);
        bench.due("12: all as it was", Bench.text(desk), before);
        desk = Bench.desk("A:a", "C:B");
        fill(desk, "B:", 29);
        bench.dueOf("12: sixty by the units", desk::greibach, 1);
        desk = Bench.desk("A:a", "A:b", "C:B");
        fill(desk, "B:", 29);
        bench.dueOf("12: sixty-one by the units", desk::greibach, FULL);
    }

    /** Adds up to 30 rules to B that are useful and in Greibach's form. */
    private static void fillB(GrammarDesk desk, int count) {
        String[] tails = {"", "AA", "AB", "BA", "BB"};
        for (int i = 0; i < count; i++) {
            Bench.enter(desk, "B:" + "abcdef".charAt(i % 6) + tails[i / 6]);
        }
    }

    /** H begins with A 42 times, and each takes 7 replacements through A .. G; A .. F take 6 more. */
    private static GrammarDesk chain() {
        GrammarDesk desk = Bench.desk("A:Ba", "B:Ca", "C:Da", "D:Ea", "E:Fa", "F:Ga", "G:aH", "H:b");
        for (char one : "abcdef".toCharArray()) {
            Bench.enter(desk, "H:A" + one);
            for (char two : "abcdef".toCharArray()) {
                Bench.enter(desk, "H:A" + one + two);
            }
        }
        return desk;
    }

    private static void greibachTooManyReplacements() {
        GrammarDesk desk = chain();
        bench.due("12: before", desk.rules(), 50);
        bench.dueOf("12: 300 replacements", desk::greibach, 56);
        desk = chain();
        Bench.enter(desk, "H:Ga");
        String before = Bench.text(desk);
        bench.dueOf("12: 301 replacements", desk::greibach, FULL);
        bench.due("12: all as it was", Bench.text(desk), before);
    }

    private static void greibachTooManyVariables() {
        String[] recursive = {"A:AB", "A:a", "B:BC", "B:a", "C:CD", "C:a", "D:DE", "D:a", "E:EF", "E:a", "F:FG", "F:a",
            "G:GH", "G:a", "H:HA", "H:a"};
        GrammarDesk desk = Bench.desk(recursive);
        bench.dueOf("12: all sixteen variables", desk::greibach, 48);
        bench.due("12: the last one is used", (char) desk.symbol(47, 0), 'P');
        bench.due("15: of P", desk.first('P'), 1);
        desk = Bench.desk(recursive);
        Bench.enter(desk, "A:ab");
        bench.dueOf("12: none is left for a letter", desk::greibach, FULL);
        bench.due("12: all as it was", desk.rules(), 17);
        desk = Bench.desk(recursive);
        desk.greibach();
        Bench.enter(desk, "A:aBCDEF");
        Bench.enter(desk, "A:aGH");
        bench.due("12: all are useful", desk.shape(), 15);
        bench.dueOf("12: nothing to do", desk::greibach, 50);
        Bench.enter(desk, "A:AB");
        bench.dueOf("12: none is left for a tail", desk::greibach, FULL);
        bench.due("12: all as it was then", desk.rules(), 51);
    }

    private static void shape() {
        bench.due("13: without rules", new GrammarDesk().shape(), 15);
        bench.due("13: all", Bench.desk("A:a", "A:bA").shape(), 15);
        bench.due("13: an empty one", Bench.desk("A:a", "A:").shape(), 2 + 4);
        bench.due("13: a unit", Bench.desk("A:a", "A:A").shape(), 1 + 4);
        bench.due("13: an unfruitful one", Bench.desk("A:a", "A:aB").shape(), 1 + 2 + 8);
        bench.due("13: an unreached one", Bench.desk("A:a", "B:b").shape(), 1 + 2 + 8);
        bench.due("13: a letter inside", Bench.desk("A:ab").shape(), 1 + 2 + 4);
        bench.due("13: a variable first", Bench.desk("A:a", "A:AA").shape(), 1 + 2 + 4);
        bench.due("13: none of all", Bench.desk("A:B", "B:", "C:C").shape(), 0);
        GrammarDesk desk = Bench.desk("A:a", "B:b");
        desk.shape();
        bench.due("13: it changes nothing", Bench.text(desk), "A:a B:b");
    }
}
