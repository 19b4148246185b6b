/** Promises 9 to 13: useful, solid, plain, greibach, shape; what Greibach's form is, GreibachTest asks. */
public final class CleaningTest {
    private static final Bench bench = new Bench();

    public static void main(String[] args) {
        useful();
        usefulNone();
        usefulAll();
        usefulSixty();
        solid();
        solidNone();
        solidSixty();
        plain();
        plainNone();
        plainSixty();
        greibach();
        greibachNoneUseful();
        greibachEmptyWord();
        shapeWithoutRules();
        shapeOne();
        shapeTwo();
        shapeFour();
        shapeEight();
        shapeSums();
        othersStay();
        bench.end();
    }

    private static void useful() {
        Desk desk = Bench.desk("A:aB", "A:b", "A:aD", "B:b", "C:c", "D:dD", "E:C", "F:D");
        bench.due("9: how many", desk.useful(), 5);
        bench.due("9: what stays", Bench.text(desk), "A:b A:aB B:b");
        bench.due("9: again", desk.useful(), 0);
        desk = Bench.desk("A:a", "A:BD", "B:b");
        bench.due("9: B is reached only by what isn't fruitful", desk.useful(), 2);
        bench.due("9: the start's rule stays", Bench.text(desk), "A:a");
        desk = Bench.desk("A:a", "A:A", "A:", "B:");
        bench.due("9: empty rules and units of the start stay", desk.useful(), 1);
        bench.due("9: these", Bench.text(desk), "A: A:A A:a");
    }

    private static void usefulNone() {
        bench.due("9: of no rules", new Desk().useful(), 0);
        Desk desk = Bench.desk("A:aB", "B:b");
        bench.due("9: none is useless", desk.useful(), 0);
        bench.due("9: all stay", Bench.text(desk), "A:aB B:b");
    }

    private static void usefulAll() {
        Desk desk = Bench.desk("A:A", "A:Bc", "B:A", "C:c");
        bench.due("9: the start isn't fruitful", desk.useful(), 4);
        bench.due("9: none is left", desk.rules(), 0);
        bench.due("9: the start has no rules", Bench.desk("B:b", "C:c").useful(), 2);
    }

    private static void usefulSixty() {
        Desk desk = new Desk();
        Bench.fill(desk, 'A', "A", 18);
        Bench.fill(desk, 'B', "AB", 42);
        bench.due("9: sixty, and forty-two go", desk.useful(), 42);
        bench.due("9: the first", Bench.text(desk, 0), "A:a");
        bench.due("9: the last", Bench.text(desk, 17), "A:fAA");
        bench.due("9: no more", desk.symbol(18, 0), -1);
        desk = new Desk();
        Bench.fill(desk, 'B', "BC", 42);
        Bench.fill(desk, 'C', "C", 18);
        bench.due("9: sixty, and all go", desk.useful(), 60);
        bench.due("9: none is there", desk.rules(), 0);
    }

    private static void solid() {
        Desk desk = Bench.desk("A:BaB", "B:", "B:b");
        bench.dueOf("10: how many there are then", desk::solid, 5);
        bench.due("10: these", Bench.text(desk), "A:a A:Ba A:aB A:BaB B:b");
        bench.dueOf("10: again", desk::solid, 5);
        bench.due("10: none is empty", desk.shape() & 1, 1);
    }

    private static void solidNone() {
        bench.dueOf("10: of no rules", new Desk()::solid, 0);
        bench.dueOf("10: no rule is left", Bench.desk("A:")::solid, 0);
        Desk desk = Bench.desk("A:aB", "B:b");
        bench.dueOf("10: nothing to do", desk::solid, 2);
        bench.due("10: nothing done", Bench.text(desk), "A:aB B:b");
    }

    private static void solidSixty() {
        Desk desk = new Desk();
        Bench.fill(desk, 'A', "AB", 42);
        Bench.fill(desk, 'B', "A", 17);
        Bench.enterAll(desk, "C:");
        bench.dueOf("10: sixty, one of them empty", desk::solid, 59);
        Bench.enterAll(desk, "C:c");
        bench.dueOf("10: sixty, none of them empty", desk::solid, 60);
    }

    private static void plain() {
        Desk desk = Bench.desk("A:B", "A:a", "B:C", "B:bB", "C:", "C:cA", "D:A");
        bench.dueOf("11: how many there are then", desk::plain, 13);
        bench.due("11: these", Bench.text(desk), "A: A:a A:bB A:cA B: B:bB B:cA C: C:cA D: D:a D:bB D:cA");
        bench.dueOf("11: again", desk::plain, 13);
        bench.due("11: none is a unit", desk.shape() & 2, 2);
    }

    private static void plainNone() {
        bench.dueOf("11: of no rules", new Desk()::plain, 0);
        bench.dueOf("11: no rule is left", Bench.desk("A:A", "A:B")::plain, 0);
        Desk desk = Bench.desk("A:a", "A:BB", "B:b");
        bench.dueOf("11: nothing to do", desk::plain, 3);
        bench.due("11: nothing done", Bench.text(desk), "A:a A:BB B:b");
    }

    private static void plainSixty() {
        Desk desk = new Desk();
        Bench.fill(desk, 'A', "AB", 42);
        Bench.fill(desk, 'B', "A", 17);
        Bench.enterAll(desk, "A:C");
        bench.dueOf("11: sixty, one of them a unit", desk::plain, 59);
        Bench.enterAll(desk, "C:c");
        bench.dueOf("11: sixty, none of them a unit", desk::plain, 60);
    }

    private static void greibach() {
        Desk desk = Bench.desk("A:BC", "B:", "B:b", "C:D", "D:d", "E:e", "F:Fa");
        bench.dueOf("12: how many there are then", desk::greibach, 4);
        bench.due("12: these", Bench.text(desk), "A:d A:bC B:b C:d");
        bench.due("12: it is Greibach's form, and B is reached no more", desk.shape(), 1 + 2 + 8);
        bench.dueOf("12: again, without B", desk::greibach, 3);
        bench.due("12: none is useless now", desk.shape(), 15);
        bench.dueOf("12: once more", desk::greibach, 3);
        desk = Bench.desk("A:b", "B:b");
        bench.dueOf("12: in the form already, but useless ones go", desk::greibach, 1);
        bench.due("12: this stays", Bench.text(desk), "A:b");
    }

    private static void greibachNoneUseful() {
        bench.dueOf("12: of no rules", new Desk()::greibach, 0);
        Desk desk = Bench.desk("A:aA", "B:b");
        bench.dueOf("12: none is useful", desk::greibach, 0);
        bench.due("12: none is left", desk.rules(), 0);
        bench.dueOf("12: the start has no rules", Bench.desk("B:b")::greibach, 0);
        bench.dueOf("12: the start is a unit of itself", Bench.desk("A:A")::greibach, 0);
    }

    private static void greibachEmptyWord() {
        Desk desk = Bench.desk("A:", "A:aA");
        bench.due("12: the empty word is produced", desk.language(2), true);
        bench.dueOf("12: two rules then", desk::greibach, 2);
        bench.due("12: it is produced no more", desk.language(2), false);
        Bench.word(desk, "aa");
        bench.due("12: another one is", desk.derives(), true);
        bench.dueOf("12: the empty word was the only one", Bench.desk("A:")::greibach, 0);
        bench.dueOf("12: it was the only one, over others", Bench.desk("A:BB", "B:")::greibach, 0);
    }

    private static void shapeWithoutRules() {
        bench.due("13: without rules", new Desk().shape(), 15);
        Desk desk = Bench.desk("A:");
        desk.clear();
        bench.due("13: without rules any more", desk.shape(), 15);
    }

    private static void shapeOne() {
        bench.due("13: no empty rule", Bench.desk("A:a").shape() & 1, 1);
        bench.due("13: one empty rule", Bench.desk("A:a", "B:").shape() & 1, 0);
    }

    private static void shapeTwo() {
        bench.due("13: no unit", Bench.desk("A:a", "A:AA").shape() & 2, 2);
        bench.due("13: one unit", Bench.desk("A:a", "B:A").shape() & 2, 0);
    }

    private static void shapeFour() {
        bench.due("13: none is useless", Bench.desk("A:aB", "B:").shape() & 4, 4);
        bench.due("13: not fruitful", Bench.desk("A:a", "A:aB").shape() & 4, 0);
        bench.due("13: not reached", Bench.desk("A:a", "B:b").shape() & 4, 0);
        bench.due("13: all are useless", Bench.desk("A:aA").shape() & 4, 0);
    }

    private static void shapeEight() {
        bench.due("13: a letter alone", Bench.desk("A:a").shape() & 8, 8);
        bench.due("13: a letter and variables", Bench.desk("A:fHGFED", "B:a").shape() & 8, 8);
        bench.due("13: useless ones may be in the form", Bench.desk("A:aA").shape(), 1 + 2 + 8);
        bench.due("13: no letter", Bench.desk("A:a", "A:").shape() & 8, 0);
        bench.due("13: a variable first", Bench.desk("A:a", "B:AA").shape() & 8, 0);
        bench.due("13: a letter behind", Bench.desk("A:a", "B:aa").shape() & 8, 0);
        bench.due("13: a letter last of six", Bench.desk("A:a", "B:aBBBBb").shape() & 8, 0);
        bench.due("13: a letter second of six", Bench.desk("A:a", "B:abBBBB").shape() & 8, 0);
    }

    private static void shapeSums() {
        bench.due("13: all", Bench.desk("A:a", "A:bA").shape(), 15);
        bench.due("13: an empty rule", Bench.desk("A:a", "A:").shape(), 2 + 4);
        bench.due("13: a unit", Bench.desk("A:a", "A:A").shape(), 1 + 4);
        bench.due("13: a letter inside", Bench.desk("A:ab").shape(), 1 + 2 + 4);
        bench.due("13: none of all", Bench.desk("A:B", "B:", "C:C").shape(), 0);
        Desk desk = new Desk();
        Bench.fill(desk, 'A', "AB", 42);
        Bench.fill(desk, 'B', "A", 18);
        bench.due("13: sixty in the form", desk.shape(), 15);
        desk.drop(59);
        Bench.enterAll(desk, "H:");
        bench.due("13: the sixtieth is empty, and useless", desk.shape(), 2);
    }

    /** Cleanings leave draft, word and place alone, and shape() leaves all. */
    private static void othersStay() {
        Desk desk = Bench.desk("A:B", "A:", "B:Ab", "C:c");
        Bench.enter(desk, "Ax");
        Bench.type(desk, "A:");
        Bench.word(desk, "bb");
        desk.shape();
        bench.due("13: it changes nothing", Bench.text(desk), "A: A:B B:Ab C:c");
        desk.useful();
        desk.solid();
        desk.plain();
        desk.greibach();
        bench.due("9 to 12: the place", desk.place(), 1);
        bench.due("9 to 12: the word", desk.wipe(), 2);
        bench.due("9 to 12: the draft", Bench.enter(desk, "a"), 0);
    }
}
