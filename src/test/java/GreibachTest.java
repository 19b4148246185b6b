/** Greibach's form, step by step, with each limit that holds on the way (promise 12 and 'Terms'). */
public final class GreibachTest {
    private static final Bench bench = new Bench();

    public static void main(String[] args) {
        cleanedFirst();
        cleaningOfEmptyOnTheWay();
        cleaningOfUnitsOnTheWay();
        earlierLeads();
        earlierLeadsFirstOneFirst();
        earlierLeadsTooLong();
        ownLeads();
        ownLeadsFreeVariable();
        ownLeadsAllAtOnce();
        ownLeadsTooLong();
        ownLeadsTooMany();
        ownLeadsNoVariable();
        laterLeads();
        laterLeadsLastOneFirst();
        laterLeadsTooLong();
        tailsAfterTheOthers();
        tailsFirstOneFirst();
        replacedGoesFirst();
        innerLetters();
        innerLettersTooMany();
        innerLettersNoVariable();
        replacements();
        bench.end();
    }

    private static String made(String... rules) {
        Desk desk = Bench.desk(rules);
        return Bench.answer(desk::greibach) + " " + Bench.text(desk);
    }

    private static void refused(String what, Desk desk) {
        int had = desk.rules();
        bench.dueOf("12" + what, desk::greibach, Bench.UNSUPPORTED);
        bench.due("12" + what + ", as many as before", desk.rules(), had);
    }

    private static void cleanedFirst() {
        bench.due("12: of empty rules, then of units that came", made("A:aBC", "B:CC", "C:", "C:c"),
            "7 A:a A:aB A:aC A:aBC B:c B:cC C:c");
        bench.due("12: a unit of itself that came of an empty rule", made("A:AB", "A:a", "B:", "B:b"), "5 A:a A:aC B:b C:b C:bC");
        bench.due("12: of useless rules after units that came", made("A:BC", "B:b", "C:"), "1 A:b");
        bench.due("12: of useless rules after the units", made("A:B", "B:b"), "1 A:b");
        bench.due("12: of useless rules after the empty ones", made("A:aB", "B:"), "1 A:a");
        bench.due("12: useless rules are not brought into the form", made("A:a", "B:BB", "B:b", "C:Aa"), "1 A:a");
        bench.due("12: what has become useless in the steps stays", made("A:Ba", "B:b"), "3 A:bC B:b C:a");
    }

    /** B:CDEFG becomes 32 rules, with five empty ones, A:a and 22 of H sixty; all but A:a are useless. */
    private static Desk uselessEmpty() {
        Desk desk = Bench.desk("A:a", "B:CDEFG", "C:", "D:", "E:", "F:", "G:");
        Bench.fill(desk, 'H', "ab", 22);
        return desk;
    }

    private static void cleaningOfEmptyOnTheWay() {
        bench.dueOf("12: sixty with empty ones", uselessEmpty()::greibach, 1);
        Desk desk = uselessEmpty();
        Bench.enterAll(desk, "A:b");
        refused(": sixty-one with empty ones", desk);
    }

    /** C gets the 29 rules of B: sixty with the unit and A:a; all but A:a are useless. */
    private static Desk uselessUnits() {
        Desk desk = Bench.desk("A:a", "C:B");
        Bench.fill(desk, 'B', "AB", 29);
        return desk;
    }

    private static void cleaningOfUnitsOnTheWay() {
        bench.dueOf("12: sixty with the unit", uselessUnits()::greibach, 1);
        Desk desk = uselessUnits();
        Bench.enterAll(desk, "A:b");
        refused(": sixty-one with the unit", desk);
    }

    private static void earlierLeads() {
        bench.due("12 (1): by each right side", made("A:aB", "A:b", "B:AA", "B:b"), "5 A:b A:aB B:b B:bA B:aBA");
        bench.due("12 (1): by what Y has become", made("A:a", "A:aC", "B:AB", "B:b", "C:BA"),
            "8 A:a A:aC B:b B:aB B:aCB C:bA C:aBA C:aCBA");
        bench.due("12 (1): as long as there is one", made("A:BC", "A:a", "B:b", "C:AC", "C:c"), "6 A:a A:bC B:b C:c C:aC C:bCC");
        bench.due("12 (1): not behind the first place", made("A:aB", "A:b", "B:bAA"), "3 A:b A:aB B:bAA");
    }

    /**
     * One rule of A is one of B, too, so that C:AD and C:BD come to a same one: of the two that are
     * replaced, the one that comes to many makes one rule more on the way if it goes first.
     */
    private static Desk earlierLeadsThatMeet(int ofA, int ofB) {
        Desk desk = Bench.desk("A:aC", "B:aC", "C:AD", "C:BD", "D:d");
        Bench.fill(desk, 'A', "DA", ofA - 1);
        Bench.fill(desk, 'B', "DA", ofB - 1);
        return desk;
    }

    private static void earlierLeadsFirstOneFirst() {
        Desk desk = earlierLeadsThatMeet(28, 1);
        Bench.enterAll(desk, "D:e");
        bench.dueOf("12 (1): sixty on the way, less in the end", desk::greibach, 59);
        refused(" (1): sixty-one on the way, sixty in the end", earlierLeadsThatMeet(29, 1));
        bench.dueOf("12 (1): sixty in the end, no more on the way", earlierLeadsThatMeet(1, 29)::greibach, 60);
        refused(" (1): sixty-two in the end", earlierLeadsThatMeet(1, 30));
    }

    private static void earlierLeadsTooLong() {
        bench.due("12 (1): ten symbols", made("A:bBBBBB", "A:b", "B:AAAAA", "B:c"),
            "5 A:b A:bBBBBB B:c B:bAAAA B:bBBBBBAAAA");
        bench.due("12 (1): eleven symbols", made("A:bBBBBB", "A:b", "B:AAAAAA", "B:c"),
            Bench.UNSUPPORTED + " A:b A:bBBBBB B:c B:AAAAAA");
    }

    private static void ownLeads() {
        bench.due("12 (2): itself twice", made("A:AA", "A:a"), "5 A:a A:aB B:a B:aB B:aBB");
        bench.due("12 (2): two, and two others", made("A:Ab", "A:AbC", "A:a", "A:aC", "C:c"),
            "9 A:a A:aB A:aC A:aCB B:b B:bB B:bC B:bCB C:c");
        bench.due("12 (2): by what (1) brought", made("A:BC", "A:a", "B:AC", "B:b", "C:c"),
            "12 A:a A:bC A:aCC A:bDC A:aCDC B:b B:aC B:bD B:aCD C:c D:cC D:cCD");
        bench.due("12 (2): before the next X", made("A:AB", "A:a", "B:AA"), "8 A:a A:aC B:aA B:aCA C:aA C:aAC C:aCA C:aCAC");
        bench.due("12 (2): not behind the first place", made("A:aA", "A:b"), "2 A:b A:aA");
    }

    private static void ownLeadsFreeVariable() {
        bench.due("12 (2): the first free one, also before X", made("A:AC", "A:a", "C:Cb", "C:c"),
            "10 A:a A:aB B:c B:cB B:cD B:cDB C:c C:cD D:b D:bD");
        bench.due("12 (2): one of useless rules is free", made("A:Ab", "A:cB", "B:b", "C:c", "D:Cd"), "5 A:cB A:cBC B:b C:b C:bC");
        bench.due("12 (2): another one each time", made("A:AB", "A:a", "B:Bb", "B:c"),
            "10 A:a A:aC B:c B:cD C:c C:cC C:cD C:cDC D:b D:bD");
    }

    private static void ownLeadsAllAtOnce() {
        bench.due("12 (2): what came gets no tail", made("A:Aa", "A:Ab", "A:c"), "6 A:c A:cB B:a B:b B:aB B:bB");
        bench.due("12 (2): one new variable for all", made("A:Aa", "A:Ab", "A:AcA", "A:c"), "8 A:c A:cB B:a B:b B:aB B:bB B:cA B:cAB");
    }

    private static void ownLeadsTooLong() {
        bench.due("12 (2): ten symbols with the tail", made("A:bBBBB", "A:b", "B:AAAAA", "B:BA", "B:c"),
            "12 A:b A:bBBBB B:c B:cC B:bAAAA B:bAAAAC B:bBBBBAAAA B:bBBBBAAAAC C:b C:bC C:bBBBB C:bBBBBC");
        bench.due("12 (2): eleven symbols with the tail", made("A:bBBBBB", "A:b", "B:AAAAA", "B:BA", "B:c"),
            Bench.UNSUPPORTED + " A:b A:bBBBBB B:c B:BA B:AAAAA");
        bench.due("12 (2): an own lead of ten symbols", made("A:Baaaaa", "B:Aaaaa", "B:b"),
            "7 A:bDDDDD A:bCDDDDD B:b B:bC C:aDDDDDDDD C:aDDDDDDDDC D:a");
    }

    /** Ten own leads become twenty rules of the tail, and nineteen others become thirty-eight. */
    private static Desk tails() {
        Desk desk = Bench.desk("A:AaA", "A:AbA", "A:AcA", "A:AdA", "A:aAAA");
        for (char letter : "abcdef".toCharArray()) {
            Bench.enterAll(desk, "A:A" + letter, "A:" + letter, "A:" + letter + "A", "A:" + letter + "AA");
        }
        return desk;
    }

    private static void ownLeadsTooMany() {
        Desk desk = tails();
        Bench.enterAll(desk, "A:bAAA");
        bench.dueOf("12 (2): sixty", desk::greibach, 60);
        desk = tails();
        Bench.enterAll(desk, "A:AeA");
        bench.dueOf("12 (2): sixty by another own lead", desk::greibach, 60);
        desk = tails();
        Bench.enterAll(desk, "A:bB", "B:b");
        refused(" (2): sixty-one", desk);
        desk = tails();
        Bench.enterAll(desk, "A:AeB", "B:b");
        refused(" (2): sixty-one by another own lead", desk);
    }

    private static void ownLeadsNoVariable() {
        Desk desk = TermsTest.sixteenVariables();
        desk.greibach();
        Bench.enterAll(desk, "A:aBCDEF", "A:aG");
        bench.due("12 (2): H alone is useless", desk.shape(), 1 + 2 + 8);
        Bench.enterAll(desk, "A:AB");
        bench.dueOf("12 (2): the last free one", desk::greibach, 56);
        desk = TermsTest.sixteenVariables();
        desk.greibach();
        Bench.enterAll(desk, "A:aBCDEF", "A:aGH");
        bench.due("12 (2): all sixteen are useful", desk.shape(), 15);
        bench.dueOf("12 (2): as long as no other is asked for", desk::greibach, 50);
        Bench.enterAll(desk, "A:AB");
        refused(" (2): no variable is free", desk);
        bench.due("12 (2): the rule is still there", Bench.text(desk, 1) + " " + Bench.text(desk, 2), "A:AB A:aI");
    }

    private static void laterLeads() {
        bench.due("12 (3): by each right side", made("A:Ba", "B:b", "B:c"), "5 A:bC A:cC B:b B:c C:a");
        bench.due("12 (3): over two", made("A:BA", "A:a", "B:CB", "B:b", "C:c"), "6 A:a A:bA A:cBA B:b B:cB C:c");
        bench.due("12 (3): of tails, too", made("A:AB", "A:a", "B:CC", "C:c"), "6 A:a A:aD B:cC C:c D:cC D:cCD");
        bench.due("12: all steps", made("A:Ba", "A:b", "B:BA", "B:Ab", "B:c"),
            "23 A:b A:cD A:bED A:cCD A:bECD B:c B:bE B:cC B:bEC C:b C:aE C:bC C:cD C:aEC C:bED C:cCD C:cDC C:bECD C:bEDC"
                + " C:cCDC C:bECDC D:a E:b");
    }

    /** As earlierLeadsThatMeet, for A:BD and A:CD. */
    private static Desk laterLeadsThatMeet(int ofB, int ofC) {
        Desk desk = Bench.desk("A:BD", "A:CD", "B:aD", "C:aD", "D:d");
        Bench.fill(desk, 'B', "AC", ofB - 1);
        Bench.fill(desk, 'C', "AC", ofC - 1);
        return desk;
    }

    private static void laterLeadsLastOneFirst() {
        Desk desk = laterLeadsThatMeet(1, 28);
        Bench.enterAll(desk, "D:e");
        bench.dueOf("12 (3): sixty on the way, less in the end", desk::greibach, 59);
        refused(" (3): sixty-one on the way, sixty in the end", laterLeadsThatMeet(1, 29));
        bench.dueOf("12 (3): sixty in the end, no more on the way", laterLeadsThatMeet(29, 1)::greibach, 60);
        refused(" (3): sixty-two in the end", laterLeadsThatMeet(30, 1));
    }

    private static void laterLeadsTooLong() {
        bench.due("12 (3): ten symbols", made("A:BBBBBB", "B:bBBBB", "B:b"), "4 A:bBBBBB A:bBBBBBBBBB B:b B:bBBBB");
        bench.due("12 (3): eleven symbols", made("A:BBBBBB", "B:bBBBBB", "B:b"), Bench.UNSUPPORTED + " A:BBBBBB B:b B:bBBBBB");
        bench.due("12 (3): a tail of ten symbols", made("A:ABBBBB", "A:a", "B:bBBBB", "B:b"),
            "8 A:a A:aC B:b B:bBBBB C:bBBBB C:bBBBBC C:bBBBBBBBB C:bBBBBBBBBC");
        bench.due("12 (3): a tail of eleven symbols", made("A:ABBBBB", "A:a", "B:bBBBBB", "B:b"),
            Bench.UNSUPPORTED + " A:a A:ABBBBB B:b B:bBBBBB");
    }

    /** B:CE and B:DE meet: were the rules of the tail F not the last ones, there would be sixty-one. */
    private static void tailsAfterTheOthers() {
        Desk desk = Bench.desk("A:ABE", "A:a", "B:CE", "B:DE", "C:aE", "D:aE", "E:e");
        Bench.fill(desk, 'D', "AD", 13);
        bench.dueOf("12 (3): sixty in the end, and no more by the tails before", desk::greibach, 60);
    }

    /** As laterLeadsThatMeet, for the tail E of A, twice: E:BD and E:CD, E:BDE and E:CDE. */
    private static Desk tailsThatMeet(int ofB, int ofC) {
        Desk desk = Bench.desk("A:ABD", "A:ACD", "A:a", "B:aD", "C:aD", "D:d");
        Bench.fill(desk, 'B', "AC", ofB - 1);
        Bench.fill(desk, 'C', "AC", ofC - 1);
        return desk;
    }

    private static void tailsFirstOneFirst() {
        Desk desk = tailsThatMeet(18, 1);
        Bench.enterAll(desk, "D:e");
        bench.dueOf("12 (3): tails, sixty on the way, less in the end", desk::greibach, 59);
        desk = tailsThatMeet(18, 1);
        Bench.enterAll(desk, "A:b");
        refused(" (3): tails, sixty-one on the way, sixty in the end", desk);
        desk = tailsThatMeet(1, 18);
        Bench.enterAll(desk, "A:b");
        bench.dueOf("12 (3): tails, sixty in the end, no more on the way", desk::greibach, 60);
    }

    private static void replacedGoesFirst() {
        Desk desk = Bench.desk("A:aB", "B:b", "B:AC");
        Bench.fill(desk, 'C', "ABC", 57);
        bench.dueOf("12 (1): one of sixty for another", desk::greibach, 60);
        bench.due("12 (1): this one", Bench.text(desk, 2), "B:aBC");
        desk = Bench.desk("A:BC", "B:b");
        Bench.fill(desk, 'C', "ABC", 58);
        bench.dueOf("12 (3): one of sixty for another", desk::greibach, 60);
        bench.due("12 (3): this one", Bench.text(desk, 0), "A:bC");
    }

    private static void innerLetters() {
        bench.due("12 (4): by the alphabet", made("A:aba", "A:b"), "4 A:b A:aCB B:a C:b");
        bench.due("12 (4): a letter first and behind", made("A:aa"), "2 A:aB B:a");
        bench.due("12 (4): though a variable has it alone", made("A:abB", "B:b"), "3 A:aCB B:b C:b");
        bench.due("12 (4): in all right sides", made("A:abA", "A:cb", "A:bA"), "4 A:bA A:cB A:aBA B:b");
        bench.due("12 (4): all six", made("A:abcdef", "A:fa"), "8 A:fB A:aCDEFG B:a C:b D:c E:d F:e G:f");
        bench.due("12 (4): the first free ones", made("A:aBDb", "B:aD", "D:da"), "5 A:aBDE B:aD C:a D:dC E:b");
        bench.due("12 (4): the second and the tenth place", made("A:Baaaaa", "B:Caaaa", "C:c"), "4 A:cDDDDDDDDD B:cDDDD C:c D:a");
        bench.due("12 (4): none behind the first place", made("A:aA", "A:b"), "2 A:b A:aA");
    }

    private static void innerLettersTooMany() {
        Desk desk = Bench.desk("A:aa");
        Bench.fill(desk, 'A', "AB", 42);
        Bench.fill(desk, 'B', "AB", 16);
        bench.dueOf("12 (4): sixty with the letter's rule", desk::greibach, 60);
        desk = Bench.desk("A:aa");
        Bench.fill(desk, 'A', "AB", 42);
        Bench.fill(desk, 'B', "AB", 17);
        refused(" (4): sixty-one with the letter's rule", desk);
        desk = Bench.desk("A:aa", "A:ab");
        Bench.fill(desk, 'A', "AB", 42);
        Bench.fill(desk, 'B', "AB", 15);
        refused(" (4): sixty-one with the second letter's rule", desk);
    }

    /** Each of A .. G has a tail, so that of the sixteen variables P alone is free. */
    private static Desk fifteenVariables() {
        return Bench.desk("A:AB", "A:a", "B:BC", "B:b", "C:CD", "C:c", "D:DE", "D:d", "E:EF", "E:e", "F:FG", "F:f", "G:GH",
            "G:a", "H:b");
    }

    private static void innerLettersNoVariable() {
        Desk desk = fifteenVariables();
        Bench.enterAll(desk, "A:ab");
        int made = desk.greibach();
        bench.due("12 (4): P is the last free one", Bench.text(desk, made - 1), "P:b");
        desk = fifteenVariables();
        Bench.enterAll(desk, "A:abc");
        refused(" (4): no variable is free for the second letter", desk);
        desk = TermsTest.sixteenVariables();
        Bench.enterAll(desk, "A:ab");
        refused(" (4): no variable is free", desk);
    }

    /** H begins with B so many times, which takes six replacements each in (1); A .. F take six in (3). */
    private static Desk chain(int count) {
        Desk desk = Bench.desk("A:BH", "B:CH", "C:DH", "D:EH", "E:FH", "F:GH", "G:aH", "H:b");
        for (int i = 0; i < count; i++) {
            Bench.enterAll(desk, "H:B" + "ABCDEFGH".charAt(i / 8) + "ABCDEFGH".charAt(i % 8));
        }
        return desk;
    }

    private static void replacements() {
        bench.dueOf("12: 294 and 6 replacements", chain(49)::greibach, 57);
        Desk desk = chain(49);
        Bench.enterAll(desk, "H:GA");
        refused(": 295 and 6 replacements", desk);
        desk = chain(49);
        Bench.enterAll(desk, "A:BA");
        refused(": 294 and 7 replacements", desk);
        desk = chain(48);
        Bench.enterAll(desk, "H:GA", "A:BA");
        bench.dueOf("12: 289 and 7 replacements", desk::greibach, 58);
        replacementsOfTwo();
        refusedThenCounted();
    }

    /** G begins with A 25 times and H 24 times, which takes six replacements each; A .. E take five in (3). */
    private static Desk chainOfTwo() {
        Desk desk = Bench.desk("A:BH", "B:CH", "C:DH", "D:EH", "E:FH", "F:aG", "G:b", "H:b");
        for (int i = 0; i < 49; i++) {
            Bench.enterAll(desk, "GH".charAt(i / 25) + ":A" + "BCDEFGH".charAt(i / 7) + "BCDEFGH".charAt(i % 7));
        }
        return desk;
    }

    private static void replacementsOfTwo() {
        Desk desk = chainOfTwo();
        Bench.enterAll(desk, "G:FA");
        bench.dueOf("12: 151, 144 and 5 replacements", desk::greibach, 58);
        desk = chainOfTwo();
        Bench.enterAll(desk, "G:FA", "H:FA");
        refused(": 151, 145 and 5 replacements", desk);
    }

    /** The replacements of a call before do not count. */
    private static void refusedThenCounted() {
        Desk desk = chain(49);
        Bench.enterAll(desk, "A:BA");
        Bench.answer(desk::greibach);
        bench.due("12: what is one too many", Bench.text(desk, 0), "A:BA");
        desk.drop(0);
        bench.dueOf("12: 294 and 6 replacements after a refused call", desk::greibach, 57);
    }
}
