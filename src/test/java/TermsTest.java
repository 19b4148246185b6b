import java.util.ArrayList;
import java.util.Collections;
import java.util.List;
import java.util.Random;

/** 'Terms' but for Greibach's form: each sentence with the boundaries that it names. */
public final class TermsTest {
    private static final Bench bench = new Bench();

    public static void main(String[] args) {
        letters();
        typedVariables();
        madeVariables();
        start();
        lengths();
        noneTwice();
        orderOfTypedRules();
        orderOfMadeVariables();
        refusedRule();
        refusedSolid();
        refusedPlain();
        refusedGreibach();
        produces();
        fruitful();
        fruitfulOverSixteen();
        reached();
        nullable();
        useless();
        emptyAndUnit();
        cleaningOfEmpty();
        cleaningOfEmptyOnTheWay();
        cleaningOfUnits();
        cleaningOfUnitsOnTheWay();
        bench.end();
    }

    private static void letters() {
        for (int code = 32; code <= 126; code++) {
            char c = (char) code;
            boolean letter = c >= 'a' && c <= 'f';
            bench.due("Terms, letters: fed " + c, new Desk().feed(c), letter);
            String answer = Bench.enter(new Desk(), "A:" + c);
            bench.due("Terms, letters: typed " + c, answer, letter || c >= 'A' && c <= 'H' ? 0 : Bench.ARGUMENT);
        }
    }

    private static void typedVariables() {
        for (int code = 32; code <= 126; code++) {
            char c = (char) code;
            String answer = Bench.enter(new Desk(), c + ":a");
            bench.due("Terms, variables: left side " + c, answer, c >= 'A' && c <= 'H' ? 0 : Bench.ARGUMENT);
        }
    }

    /** Each of A .. H begins with itself, so that each of I .. P has rules in Greibach's form. */
    static Desk sixteenVariables() {
        return Bench.desk("A:AB", "A:a", "B:BC", "B:b", "C:CD", "C:c", "D:DE", "D:d", "E:EF", "E:e", "F:FG", "F:f",
            "G:GH", "G:a", "H:HA", "H:b");
    }

    private static void madeVariables() {
        Desk desk = sixteenVariables();
        bench.dueOf("Terms, variables: up to P", desk::greibach, 48);
        StringBuilder lefts = new StringBuilder();
        for (int i = 0; i < 48; i++) {
            lefts.append((char) desk.symbol(i, 0));
        }
        bench.due("Terms, variables: all sixteen", lefts, "AABBCCDDEEFFGGHHIIIIJJJJKKKKLLLLMMMMNNNNOOOOPPPP");
        bench.due("15: of I", desk.first('I'), 2);
        bench.due("15: of P", desk.first('P'), 1);
        bench.due("16: of I", desk.follow('I') & 64, 64);
        bench.due("16: of P", desk.follow('P') != 0, true);
        bench.due("15: of Q", desk.first('Q'), 0);
        bench.due("16: of Q", desk.follow('Q'), 0);
        bench.due("Terms, variables: I has rules, and can't be typed", Bench.enter(desk, "A:I"), Bench.ARGUMENT);
        bench.due("4: nor stand on the right side", desk.place(), 2);
        bench.due("Terms, variables: nor on the left", Bench.enter(desk, "I:a"), Bench.ARGUMENT);
        bench.due("4: at all", desk.place(), 0);
        Bench.word(desk, "ab");
        bench.dueOf("22: with rules of I", desk::derive, 2);
        bench.due("23: A:aI and I:b", Bench.steps(desk), "1 16");
    }

    private static void start() {
        Desk desk = Bench.desk("B:b", "C:b");
        Bench.word(desk, "b");
        bench.due("Terms, start: only B and C produce it", desk.derives(), false);
        Bench.enterAll(desk, "A:b");
        bench.due("Terms, start: A produces it", desk.derives(), true);
        bench.due("Terms, start: the end is behind A", desk.follow('A'), 64);
        bench.due("Terms, start: and behind no other", desk.follow('B'), 0);
    }

    private static void lengths() {
        bench.due("Terms, a rule: 0 symbols", Bench.text(Bench.desk("A:")), "A:");
        Desk desk = Bench.desk("A:Baaaaa", "B:Caaaa", "C:c");
        bench.dueOf("Terms, a rule: 10 symbols", desk::greibach, 4);
        bench.due("Terms, a rule: they are there", Bench.text(desk), "A:cDDDDDDDDD B:cDDDD C:c D:a");
        desk = Bench.desk("A:Baaaaa", "B:Caaaaa", "C:c");
        bench.dueOf("Terms, a rule: 11 symbols", desk::greibach, Bench.UNSUPPORTED);
    }

    private static void noneTwice() {
        Desk desk = Bench.desk("A:ab", "A:ab");
        bench.due("Terms, none twice: typed", Bench.text(desk), "A:ab");
        desk = Bench.desk("A:BB", "B:", "B:b");
        bench.dueOf("Terms, none twice: cleaned of empty rules", desk::solid, 3);
        bench.due("Terms, none twice: A:B came twice", Bench.text(desk), "A:B A:BB B:b");
        desk = Bench.desk("A:B", "A:C", "B:a", "C:a");
        bench.dueOf("Terms, none twice: cleaned of units", desk::plain, 3);
        bench.due("Terms, none twice: A:a came twice", Bench.text(desk), "A:a B:a C:a");
        desk = Bench.desk("A:BD", "A:CD", "B:a", "C:a", "D:d");
        bench.dueOf("Terms, none twice: Greibach's form", desk::greibach, 4);
        bench.due("Terms, none twice: A:aD came twice", Bench.text(desk), "A:aD B:a C:a D:d");
    }

    private static void orderOfTypedRules() {
        // Left sides, how many symbols, the symbols one after the other; variables before letters.
        String due = "A: A:A A:B A:H A:a A:f A:AA A:AH A:Aa A:Af A:HA A:Hf A:aA A:aH A:aa A:ab A:fA A:ff A:AAA A:aaA A:aaf A:baA"
            + " A:ffffff B: B:A B:b H: H:ffffff";
        for (int seed = 0; seed < 20; seed++) {
            List<String> rules = new ArrayList<>(List.of(due.split(" ")));
            Collections.shuffle(rules, new Random(seed));
            Desk desk = Bench.desk(rules.toArray(new String[0]));
            bench.due("Terms, ORDER: typed in another one", Bench.text(desk), due);
        }
        String[] rules = due.split(" ");
        Desk desk = Bench.desk(rules);
        for (int i = 0; i < rules.length; i++) {
            bench.due("Terms, ORDER: the number of " + rules[i], Bench.enter(desk, rules[i]), i);
        }
    }

    private static void orderOfMadeVariables() {
        Desk desk = Bench.desk("A:AB", "A:a", "B:aC", "C:aD", "D:aE", "E:aF", "F:aG", "G:aH", "H:b");
        desk.greibach();
        bench.due("Terms, ORDER: left sides, I behind H", Bench.text(desk),
            "A:a A:aI B:aC C:aD D:aE E:aF F:aG G:aH H:b I:aC I:aCI");
        bench.due("Terms, ORDER: H before I", Bench.enter(desk, "A:aH"), 1);
        bench.due("Terms, ORDER: I before the letters", Bench.enter(desk, "A:aa"), 3);
    }

    private static void refusedRule() {
        Desk desk = new Desk();
        Bench.fill(desk, 'A', "AB", 42);
        Bench.fill(desk, 'B', "AB", 18);
        Bench.word(desk, "ab");
        bench.dueOf("22: of sixty rules", desk::derive, 2);
        String steps = Bench.steps(desk);
        bench.due("Terms, refused: a sixty-first", Bench.enter(desk, "H:a"), Bench.UNSUPPORTED);
        bench.due("Terms, refused: sixty rules still", desk.rules(), 60);
        bench.due("Terms, refused: the last rule still", Bench.text(desk, 59), "B:fB");
        bench.due("Terms, refused: the derivation still", Bench.steps(desk), steps);
        bench.due("Terms, refused: the word still", desk.wipe(), 2);
        bench.dueOf("Terms, refused: but the draft is taken", desk::rule, Bench.ARGUMENT);
        bench.due("4: of an empty one", desk.place(), 0);
    }

    /** A desk with a wrong draft behind it, another one begun, and a word. */
    private static void makeBusy(Desk desk) {
        Bench.enter(desk, "A:ax");
        Bench.type(desk, "H:H");
        Bench.word(desk, "abc");
    }

    private static void isAsItWas(String what, Desk desk, String rules) {
        bench.due(what + ": the rules as they were", Bench.text(desk), rules);
        bench.due(what + ": the place", desk.place(), 3);
        bench.due(what + ": the word", desk.wipe(), 3);
        bench.due(what + ": the draft", Bench.enter(desk, ""), desk.rules() - 1);
        bench.due(what + ": all of the draft", Bench.text(desk, desk.rules() - 1), "H:H");
    }

    private static void refusedSolid() {
        // Each of the six comes with or without B .. G: 64 of them.
        Desk desk = Bench.desk("A:BCDEFG", "B:", "C:", "D:", "E:", "F:", "G:");
        makeBusy(desk);
        bench.dueOf("Terms, refused: solid", desk::solid, Bench.UNSUPPORTED);
        isAsItWas("Terms, refused solid", desk, "A:BCDEFG B: C: D: E: F: G:");
    }

    private static void refusedPlain() {
        Desk desk = Bench.desk("A:B", "B:C", "C:D", "D:E", "E:A", "A:a", "B:b", "C:c", "D:d", "E:e", "A:ab", "B:bb", "C:cb", "D:db",
            "E:eb");
        makeBusy(desk);
        bench.dueOf("Terms, refused: five times ten, and five units", desk::plain, 50);
        desk = Bench.desk("A:B", "B:C", "C:D", "D:E", "E:A", "A:a", "B:b", "C:c", "D:d", "E:e", "A:ab", "B:bb", "C:cb", "D:db",
            "E:eb", "E:ff", "E:");
        String before = Bench.text(desk);
        makeBusy(desk);
        bench.dueOf("Terms, refused: plain, sixty and five units", desk::plain, Bench.UNSUPPORTED);
        isAsItWas("Terms, refused plain", desk, before);
    }

    private static void refusedGreibach() {
        // Too long, after the empty rule, the unit and the useless rule would be gone.
        Desk desk = Bench.desk("A:Baaaaa", "B:Caaaaa", "C:D", "D:c", "D:", "E:e");
        makeBusy(desk);
        bench.dueOf("Terms, refused: greibach", desk::greibach, Bench.UNSUPPORTED);
        isAsItWas("Terms, refused greibach", desk, "A:Baaaaa B:Caaaaa C:D D: D:c E:e");
    }

    private static void produces() {
        Desk desk = Bench.desk("A:BC", "B:", "C:aC", "C:");
        bench.due("Terms, produces: a row of no letters", desk.derives(), true);
        Bench.word(desk, "aaa");
        bench.due("Terms, produces: a row of letters", desk.derives(), true);
        desk = Bench.desk("A:aA");
        Bench.word(desk, "a");
        bench.due("Terms, produces: no row with a variable", desk.derives(), false);
    }

    private static void fruitful() {
        bench.due("Terms, fruitful: by the empty word alone", Bench.desk("A:BB", "B:").useful(), 0);
        bench.due("Terms, fruitful: by a letter", Bench.desk("A:Ba", "B:b").useful(), 0);
        bench.due("Terms, fruitful: not without a rule", Bench.desk("A:a", "A:B").useful(), 1);
        bench.due("Terms, fruitful: not by itself alone", Bench.desk("A:a", "A:B", "B:bB").useful(), 2);
        // Found from behind, by one variable more each time.
        bench.due("Terms, fruitful: over eight", Bench.desk("A:B", "B:C", "C:D", "D:E", "E:F", "F:G", "G:H", "H:").useful(), 0);
    }

    /** Of Greibach's form only the rules stay by which each of A .. P needs the next one. */
    private static void fruitfulOverSixteen() {
        Desk desk = Bench.desk("A:AB", "A:a", "B:BC", "B:b", "C:CD", "C:c", "D:DE", "D:d", "E:EF", "E:e", "F:FG", "F:f",
            "G:GHa", "G:a", "H:Aa", "H:b");
        bench.dueOf("12: sixteen variables, the last one for a letter", desk::greibach, 48);
        List<String> kept = List.of("H:aIP", "I:bJ", "J:cK", "K:dL", "L:eM", "M:fN", "N:aO", "O:bP", "P:a");
        for (int i = 47; i >= 0; i--) {
            if (!kept.contains(Bench.text(desk, i))) {
                desk.drop(i);
            }
        }
        bench.due("5: nine stay", desk.rules(), 9);
        bench.due("Terms, fruitful: not yet the start", desk.language(0), true);
        Bench.enterAll(desk, "A:aB", "B:aC", "C:aD", "D:aE", "E:aF", "F:aG", "G:aH");
        bench.due("Terms, fruitful: over sixteen", desk.language(0), false);
        bench.due("Terms, reached: over sixteen", desk.useful(), 0);
    }

    private static void reached() {
        bench.due("Terms, reached: the start, which stands nowhere", Bench.desk("A:a").useful(), 0);
        bench.due("Terms, reached: from the start", Bench.desk("A:B", "B:bC", "C:c").useful(), 0);
        bench.due("Terms, reached: not from what isn't", Bench.desk("A:a", "B:C", "C:c").useful(), 2);
        bench.due("Terms, reached: not by itself", Bench.desk("A:a", "B:bB", "B:b").useful(), 2);
        bench.due("Terms, reached: over eight",
            Bench.desk("A:aH", "H:aG", "G:aF", "F:aE", "E:aD", "D:aC", "C:aB", "B:b").useful(), 0);
    }

    private static void nullable() {
        bench.due("Terms, nullable: by an empty rule", Bench.desk("A:").first('A'), 64);
        bench.due("Terms, nullable: over others", Bench.desk("A:BC", "B:CC", "C:").first('A'), 64);
        bench.due("Terms, nullable: not with a letter", Bench.desk("A:BaC", "B:", "C:").first('A'), 1);
        bench.due("Terms, nullable: not with one that isn't", Bench.desk("A:BC", "B:", "C:c").first('A'), 4);
        bench.due("Terms, nullable: over eight",
            Bench.desk("A:B", "B:C", "C:D", "D:E", "E:F", "F:G", "G:H", "H:").first('A'), 64);
    }

    private static void useless() {
        Desk desk = Bench.desk("A:a", "A:bB", "B:bB", "A:cC");
        bench.due("Terms, useless: left or right not fruitful", desk.useful(), 3);
        bench.due("Terms, useless: the others stay", Bench.text(desk), "A:a");
        desk = Bench.desk("A:a", "A:BC", "B:b");
        bench.due("Terms, useless: reached only by what is gone", desk.useful(), 2);
        bench.due("Terms, useless: the start's stay", Bench.text(desk), "A:a");
        desk = Bench.desk("A:a", "B:A");
        bench.due("Terms, useless: its left side isn't reached", desk.useful(), 1);
        bench.due("Terms, useless: the reached one stays", Bench.text(desk), "A:a");
    }

    private static void emptyAndUnit() {
        bench.due("Terms, empty: no symbols", Bench.desk("A:", "A:a").shape() & 1, 0);
        bench.due("Terms, empty: one letter is not", Bench.desk("A:a").shape() & 1, 1);
        bench.due("Terms, empty: nor a variable that is nullable", Bench.desk("A:BB").shape() & 1, 1);
        bench.due("Terms, unit: one variable", Bench.desk("A:B").shape() & 2, 0);
        bench.due("Terms, unit: itself", Bench.desk("A:A").shape() & 2, 0);
        bench.due("Terms, unit: one letter is none", Bench.desk("A:a").shape() & 2, 2);
        bench.due("Terms, unit: nor two variables", Bench.desk("A:BB").shape() & 2, 2);
        bench.due("Terms, unit: nor none", Bench.desk("A:").shape() & 2, 2);
        bench.due("Terms, unit: nor a variable and a letter", Bench.desk("A:Ba", "A:aB").shape() & 2, 2);
    }

    private static String solid(String... rules) {
        Desk desk = Bench.desk(rules);
        return Bench.answer(desk::solid) + " " + Bench.text(desk);
    }

    private static void cleaningOfEmpty() {
        bench.due("Terms, cleaning: none, some or all", solid("A:BaCB", "B:", "B:b", "C:", "C:c"),
            "10 A:a A:Ba A:aB A:aC A:BaB A:BaC A:aCB A:BaCB B:b C:c");
        bench.due("Terms, cleaning: those that aren't nullable stay", solid("A:BC", "B:", "B:b", "C:c"), "4 A:C A:BC B:b C:c");
        bench.due("Terms, cleaning: nullable over others", solid("A:aB", "B:CC", "C:"), "4 A:a A:aB B:C B:CC");
        bench.due("Terms, cleaning: useless ones count", solid("A:a", "D:aE", "E:F", "F:"), "4 A:a D:a D:aE E:F");
        bench.due("Terms, cleaning: by the rules of before, though B has none then", solid("A:B", "A:aB", "B:"), "3 A:B A:a A:aB");
        bench.due("Terms, cleaning: all six of six", solid("A:AAAAAA", "A:"), "6 A:A A:AA A:AAA A:AAAA A:AAAAA A:AAAAAA");
        bench.due("Terms, cleaning: nothing nullable", solid("A:Ba", "B:b"), "2 A:Ba B:b");
        bench.due("Terms, cleaning: empty ones alone", solid("A:", "B:"), "0 ");
        bench.due("Terms, cleaning: of no rules", solid(), "0 ");
    }

    /** B .. H have empty rules, A:BCDEF becomes 32 rules, one of them empty, and others of H make sixty. */
    private static Desk sixtyWithEmpty() {
        Desk desk = Bench.desk("B:", "C:", "D:", "E:", "F:", "G:", "H:", "A:BCDEF");
        Bench.fill(desk, 'H', "ab", 21);
        return desk;
    }

    private static void cleaningOfEmptyOnTheWay() {
        bench.dueOf("Terms, cleaning: sixty with the empty ones, eight of them", sixtyWithEmpty()::solid, 52);
        Desk desk = sixtyWithEmpty();
        Bench.enterAll(desk, "A:bb");
        bench.dueOf("Terms, cleaning: sixty-one with the empty ones", desk::solid, Bench.UNSUPPORTED);
        bench.due("Terms, cleaning: as many as before", desk.rules(), 30);
        // The empty rule that comes of A:B counts, too.
        desk = Bench.desk("A:B", "B:");
        Bench.fill(desk, 'C', "CD", 42);
        Bench.fill(desk, 'D', "D", 12);
        Bench.fill(desk, 'E', "", 4);
        bench.due("Terms, cleaning: sixty before", desk.rules(), 60);
        bench.dueOf("Terms, cleaning: sixty, and an empty one that came", desk::solid, Bench.UNSUPPORTED);
        bench.due("Terms, cleaning: sixty still", desk.rules(), 60);
        desk = Bench.desk("A:B", "A:", "B:");
        Bench.fill(desk, 'C', "CD", 42);
        Bench.fill(desk, 'D', "D", 12);
        Bench.fill(desk, 'E', "", 3);
        bench.dueOf("Terms, cleaning: sixty, and none came that wasn't there", desk::solid, 58);
    }

    private static String plain(String... rules) {
        Desk desk = Bench.desk(rules);
        return Bench.answer(desk::plain) + " " + Bench.text(desk);
    }

    private static void cleaningOfUnits() {
        bench.due("Terms, cleaning: over one unit", plain("A:B", "B:b"), "2 A:b B:b");
        bench.due("Terms, cleaning: over several units", plain("A:B", "B:C", "C:D", "D:dA"), "4 A:dA B:dA C:dA D:dA");
        bench.due("Terms, cleaning: over each of two units", plain("A:B", "A:C", "B:b", "C:c"), "4 A:b A:c B:b C:c");
        bench.due("Terms, cleaning: X itself", plain("A:B", "A:aa", "B:b"), "3 A:b A:aa B:b");
        bench.due("Terms, cleaning: a unit of itself", plain("A:A", "A:a"), "1 A:a");
        bench.due("Terms, cleaning: in a circle", plain("A:B", "B:C", "C:A", "C:c", "A:a"), "6 A:a A:c B:a B:c C:a C:c");
        bench.due("Terms, cleaning: empty ones are like others", plain("A:B", "B:", "B:bb"), "4 A: A:bb B: B:bb");
        bench.due("Terms, cleaning: no way over what vanishes", plain("A:BC", "B:", "C:c"), "3 A:BC B: C:c");
        bench.due("Terms, cleaning: useless ones, too", plain("A:a", "D:E", "E:eE"), "3 A:a D:eE E:eE");
        bench.due("Terms, cleaning: nothing behind the unit", plain("A:B"), "0 ");
        bench.due("Terms, cleaning: no units", plain("A:a", "A:BB", "B:b"), "3 A:a A:BB B:b");
        bench.due("Terms, cleaning: of no rules at all", plain(), "0 ");
        bench.due("Terms, cleaning: against the alphabet", plain("A:a", "H:G", "G:F", "F:A"), "4 A:a F:a G:a H:a");
        Desk desk = Bench.desk("A:B", "B:b");
        desk.plain();
        Bench.enterAll(desk, "B:c");
        bench.dueOf("Terms, cleaning: units of before are gone", desk::plain, 3);
    }

    /** A gets what B has: with the unit and those of C there are sixty. */
    private static Desk sixtyWithUnit() {
        Desk desk = Bench.desk("A:B");
        Bench.fill(desk, 'B', "BC", 29);
        Bench.enterAll(desk, "C:c");
        return desk;
    }

    private static void cleaningOfUnitsOnTheWay() {
        bench.dueOf("Terms, cleaning: sixty with the unit", sixtyWithUnit()::plain, 59);
        Desk desk = sixtyWithUnit();
        Bench.enterAll(desk, "C:d");
        bench.dueOf("Terms, cleaning: sixty-one with the unit", desk::plain, Bench.UNSUPPORTED);
        bench.due("Terms, cleaning: as many as were there", desk.rules(), 32);
        desk = sixtyWithUnit();
        Bench.enterAll(desk, "A:a", "A:b");
        bench.dueOf("Terms, cleaning: what A had already counts once", desk::plain, 59);
    }
}
