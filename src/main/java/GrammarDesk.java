/**
 * A desk for grammars: rules are typed, cleaned of what is useless, empty or mere renaming, brought
 * into the form in which each rule begins with a letter, and words are tried against them, with the
 * least derivation, the number of derivations, and what may come first and behind.
 */
public final class GrammarDesk {
    public static final int NONE = -1;

    private static final int NO_WORD = 0;
    private static final int FINITELY_MANY = 1;
    private static final int EMPTY_WORD = 2;

    private static final int WITHOUT_EMPTY = 1;
    private static final int WITHOUT_UNIT = 2;
    private static final int WITHOUT_USELESS = 4;
    private static final int IN_GREIBACH = 8;
    private static final int ALL_SHAPES = WITHOUT_EMPTY | WITHOUT_UNIT | WITHOUT_USELESS | IN_GREIBACH;

    private final Draft draft;
    private final RuleSet grammar;
    // Cleanings work on this copy, so that a refused call leaves the grammar as it was.
    private final RuleSet attempt;
    private final Cleaner cleaner;
    private final GreibachMaker maker;
    private final Lookahead lookahead;
    private final Growth growth;
    private final Trial trial;
    private int faultyPlace;

    public GrammarDesk() {
        draft = new Draft();
        grammar = new RuleSet();
        attempt = new RuleSet();
        cleaner = new Cleaner();
        maker = new GreibachMaker(cleaner);
        lookahead = new Lookahead();
        growth = new Growth();
        trial = new Trial();
        faultyPlace = NONE;
    }

    public boolean type(char c) {
        return draft.add(c);
    }

    public int rule() throws IllegalArgumentException, UnsupportedOperationException {
        faultyPlace = draft.faultyPlace();
        if (faultyPlace != NONE) {
            draft.empty();
            throw new IllegalArgumentException();
        }
        long typed = draft.toRule();
        draft.empty();
        if (!grammar.has(typed)) {
            if (!grammar.put(typed)) {
                throw new UnsupportedOperationException();
            }
            trial.forget();
        }
        return grammar.placeOf(typed);
    }

    public int place() {
        return faultyPlace;
    }

    public boolean drop(int i) {
        if (i < 0 || i >= grammar.size()) {
            return false;
        }
        grammar.removeAt(i);
        trial.forget();
        return true;
    }

    public int clear() {
        int gone = grammar.size();
        attempt.empty();
        takeOver();
        return gone;
    }

    public int rules() {
        return grammar.size();
    }

    public int symbol(int i, int k) {
        if (i < 0 || i >= grammar.size()) {
            return NONE;
        }
        long asked = grammar.at(i);
        if (k < 0 || k > Packed.lengthOf(asked)) {
            return NONE;
        }
        return Packed.characterOf(k == 0 ? Packed.leftOf(asked) : Packed.symbolOf(asked, k));
    }

    public int useful() {
        attempt.copyFrom(grammar);
        int gone = cleaner.removeUseless(attempt);
        takeOver();
        return gone;
    }

    public int solid() throws UnsupportedOperationException {
        attempt.copyFrom(grammar);
        if (!cleaner.removeEmpty(attempt)) {
            throw new UnsupportedOperationException();
        }
        return takeOver();
    }

    public int plain() throws UnsupportedOperationException {
        attempt.copyFrom(grammar);
        if (!cleaner.removeUnits(attempt)) {
            throw new UnsupportedOperationException();
        }
        return takeOver();
    }

    public int greibach() throws UnsupportedOperationException {
        attempt.copyFrom(grammar);
        if (!maker.make(attempt)) {
            throw new UnsupportedOperationException();
        }
        return takeOver();
    }

    public int shape() {
        int sum = ALL_SHAPES;
        for (int i = 0; i < grammar.size(); i++) {
            sum &= shapesOf(grammar.at(i));
        }
        attempt.copyFrom(grammar);
        return cleaner.removeUseless(attempt) == 0 ? sum : sum & ~WITHOUT_USELESS;
    }

    public boolean language(int what) {
        switch (what) {
            case NO_WORD:
                return !Packed.holds(Facts.fruitful(grammar), Packed.START);
            case FINITELY_MANY:
                attempt.copyFrom(grammar);
                cleaner.removeUseless(attempt);
                return growth.isFinite(attempt);
            case EMPTY_WORD:
                return Packed.holds(Facts.nullable(grammar), Packed.START);
            default:
                return false;
        }
    }

    public int first(char variable) {
        if (!Packed.isVariableName(variable)) {
            return 0;
        }
        lookahead.study(grammar);
        return lookahead.firstOf(variable - 'A');
    }

    public int follow(char variable) {
        if (!Packed.isVariableName(variable)) {
            return 0;
        }
        lookahead.study(grammar);
        return lookahead.followOf(variable - 'A');
    }

    public boolean single() {
        lookahead.study(grammar);
        return lookahead.choosesAlways(grammar);
    }

    public boolean feed(char c) {
        return Packed.isLetterName(c) && trial.add(Packed.letter(c));
    }

    public int wipe() {
        return trial.erase();
    }

    public boolean derives() {
        return trial.isProduced(grammar);
    }

    public int ways() throws IllegalStateException {
        for (int i = 0; i < grammar.size(); i++) {
            if (Packed.isEmpty(grammar.at(i)) || Packed.isUnit(grammar.at(i))) {
                throw new IllegalStateException();
            }
        }
        return trial.countWays(grammar);
    }

    public int derive() throws IllegalStateException, IllegalArgumentException {
        for (int i = 0; i < grammar.size(); i++) {
            if (!Packed.isGreibach(grammar.at(i))) {
                throw new IllegalStateException();
            }
        }
        if (!trial.search(grammar)) {
            throw new IllegalArgumentException();
        }
        return trial.found();
    }

    public int step(int k) {
        return k < 0 || k >= trial.found() ? NONE : trial.stepAt(k);
    }

    // The derivation stays where nothing changed, so equal rules are told apart from new ones.
    private int takeOver() {
        if (!grammar.sameAs(attempt)) {
            grammar.copyFrom(attempt);
            trial.forget();
        }
        return grammar.size();
    }

    private static int shapesOf(long rule) {
        int sum = WITHOUT_USELESS;
        sum |= Packed.isEmpty(rule) ? 0 : WITHOUT_EMPTY;
        sum |= Packed.isUnit(rule) ? 0 : WITHOUT_UNIT;
        sum |= Packed.isGreibach(rule) ? IN_GREIBACH : 0;
        return sum;
    }

    /**
     * A rule as one number: its left side, how many symbols it has, and these symbols, from the
     * highest bits down, so that the order of the numbers is the ORDER of the rules.
     */
    private static final class Packed {
        static final int VARIABLES = 16;
        static final int TYPED_VARIABLES = 8;
        static final int LETTERS = 6;
        static final int START = 0;
        static final int MOST_SYMBOLS = 10;
        static final long TOO_LONG = -1L;

        private static final int LEFT_SHIFT = 54;
        private static final int LENGTH_SHIFT = 50;
        private static final int LENGTH_MASK = 15;
        private static final int SYMBOL_BITS = 5;
        private static final int SYMBOL_MASK = 31;

        static boolean isVariableName(char c) {
            return c >= 'A' && c < 'A' + VARIABLES;
        }

        static boolean isTypedVariableName(char c) {
            return c >= 'A' && c < 'A' + TYPED_VARIABLES;
        }

        static boolean isLetterName(char c) {
            return c >= 'a' && c < 'a' + LETTERS;
        }

        static int letter(char c) {
            return VARIABLES + c - 'a';
        }

        static int characterOf(int symbol) {
            return isVariable(symbol) ? 'A' + symbol : 'a' + symbol - VARIABLES;
        }

        static boolean isVariable(int symbol) {
            return symbol < VARIABLES;
        }

        static boolean holds(int variables, int variable) {
            return (variables >> variable & 1) != 0;
        }

        static long emptyRule(int left) {
            return (long) left << LEFT_SHIFT;
        }

        static int leftOf(long rule) {
            return (int) (rule >> LEFT_SHIFT);
        }

        static int lengthOf(long rule) {
            return (int) (rule >> LENGTH_SHIFT) & LENGTH_MASK;
        }

        /** Symbol k of the right side, k from 1 on. */
        static int symbolOf(long rule, int k) {
            return (int) (rule >> (LENGTH_SHIFT - SYMBOL_BITS * k)) & SYMBOL_MASK;
        }

        /** The rule with one symbol more; TOO_LONG stays TOO_LONG. */
        static long append(long rule, int symbol) {
            if (rule == TOO_LONG || lengthOf(rule) >= MOST_SYMBOLS) {
                return TOO_LONG;
            }
            int shift = LENGTH_SHIFT - SYMBOL_BITS * (lengthOf(rule) + 1);
            return rule + (1L << LENGTH_SHIFT) + ((long) symbol << shift);
        }

        /** The rule with the symbols of another one behind its own, from symbol number from on. */
        static long appendFrom(long rule, long other, int from) {
            long longer = rule;
            for (int k = from; k <= lengthOf(other); k++) {
                longer = append(longer, symbolOf(other, k));
            }
            return longer;
        }

        static long withLeft(long rule, int left) {
            return rule - emptyRule(leftOf(rule)) + emptyRule(left);
        }

        static long without(long rule, int omitted) {
            long shorter = emptyRule(leftOf(rule));
            for (int k = 1; k <= lengthOf(rule); k++) {
                shorter = k == omitted ? shorter : append(shorter, symbolOf(rule, k));
            }
            return shorter;
        }

        /** The rule with another symbol for one of its own, but for the first place. */
        static long renamedBehindFirst(long rule, int old, int other) {
            long renamed = emptyRule(leftOf(rule));
            for (int k = 1; k <= lengthOf(rule); k++) {
                int symbol = symbolOf(rule, k);
                renamed = append(renamed, k > 1 && symbol == old ? other : symbol);
            }
            return renamed;
        }

        static boolean isEmpty(long rule) {
            return lengthOf(rule) == 0;
        }

        static boolean isUnit(long rule) {
            return lengthOf(rule) == 1 && isVariable(symbolOf(rule, 1));
        }

        static boolean leadsWithVariable(long rule) {
            return lengthOf(rule) > 0 && isVariable(symbolOf(rule, 1));
        }

        static boolean isGreibach(long rule) {
            if (isEmpty(rule) || leadsWithVariable(rule)) {
                return false;
            }
            for (int k = 2; k <= lengthOf(rule); k++) {
                if (!isVariable(symbolOf(rule, k))) {
                    return false;
                }
            }
            return true;
        }

        /** The variables of the right side, as bits. */
        static int variablesOf(long rule) {
            int variables = 0;
            for (int k = 1; k <= lengthOf(rule); k++) {
                if (isVariable(symbolOf(rule, k))) {
                    variables |= 1 << symbolOf(rule, k);
                }
            }
            return variables;
        }

        static boolean hasLetter(long rule) {
            for (int k = 1; k <= lengthOf(rule); k++) {
                if (!isVariable(symbolOf(rule, k))) {
                    return true;
                }
            }
            return false;
        }

        static boolean hasBehindFirst(long rule, int symbol) {
            for (int k = 2; k <= lengthOf(rule); k++) {
                if (symbolOf(rule, k) == symbol) {
                    return true;
                }
            }
            return false;
        }
    }

    /** Rules in their ORDER, none twice. */
    private static final class RuleSet {
        static final int MOST_RULES = 60;

        private final long[] packed;
        private int count;

        RuleSet() {
            packed = new long[MOST_RULES];
            count = 0;
        }

        int size() {
            return count;
        }

        long at(int i) {
            return packed[i];
        }

        /** How many rules stand before this one: its number, if it is there. */
        int placeOf(long rule) {
            int place = 0;
            while (place < count && packed[place] < rule) {
                place++;
            }
            return place;
        }

        boolean has(long rule) {
            int place = placeOf(rule);
            return place < count && packed[place] == rule;
        }

        /** False if the rule is too long, or new and one too many. */
        boolean put(long rule) {
            if (rule == Packed.TOO_LONG) {
                return false;
            }
            int place = placeOf(rule);
            if (place < count && packed[place] == rule) {
                return true;
            }
            if (count >= MOST_RULES) {
                return false;
            }
            System.arraycopy(packed, place, packed, place + 1, count - place);
            packed[place] = rule;
            count++;
            return true;
        }

        void removeAt(int i) {
            System.arraycopy(packed, i + 1, packed, i, count - i - 1);
            count--;
        }

        void remove(long rule) {
            int place = placeOf(rule);
            if (place < count && packed[place] == rule) {
                removeAt(place);
            }
        }

        void empty() {
            count = 0;
        }

        void copyFrom(RuleSet other) {
            System.arraycopy(other.packed, 0, packed, 0, other.count);
            count = other.count;
        }

        boolean sameAs(RuleSet other) {
            if (count != other.count) {
                return false;
            }
            for (int i = 0; i < count; i++) {
                if (packed[i] != other.packed[i]) {
                    return false;
                }
            }
            return true;
        }

        int leftSides() {
            int variables = 0;
            for (int i = 0; i < count; i++) {
                variables |= 1 << Packed.leftOf(packed[i]);
            }
            return variables;
        }

        /** The first variable that has no rule and stands in none, or NONE. */
        int freeVariable() {
            int used = leftSides();
            for (int i = 0; i < count; i++) {
                used |= Packed.variablesOf(packed[i]);
            }
            for (int variable = 0; variable < Packed.VARIABLES; variable++) {
                if (!Packed.holds(used, variable)) {
                    return variable;
                }
            }
            return NONE;
        }
    }

    /** The characters typed for the next rule. */
    private static final class Draft {
        private static final int MOST_CHARACTERS = 9;
        private static final int LOWEST_CODE = 32;
        private static final int HIGHEST_CODE = 126;
        private static final int LEAST_LENGTH = 2;
        private static final int GREATEST_LENGTH = 8;

        private final char[] characters;
        private int length;

        Draft() {
            characters = new char[MOST_CHARACTERS];
            length = 0;
        }

        boolean add(char c) {
            if (c < LOWEST_CODE || c > HIGHEST_CODE || length >= MOST_CHARACTERS) {
                return false;
            }
            characters[length] = c;
            length++;
            return true;
        }

        void empty() {
            length = 0;
        }

        int faultyPlace() {
            for (int i = 0; i < length; i++) {
                if (!mayStand(characters[i], i)) {
                    return i;
                }
            }
            return length < LEAST_LENGTH ? length : NONE;
        }

        private static boolean mayStand(char c, int at) {
            if (at == 0) {
                return Packed.isTypedVariableName(c);
            }
            if (at == 1) {
                return c == ':';
            }
            return at < GREATEST_LENGTH && (Packed.isLetterName(c) || Packed.isTypedVariableName(c));
        }

        /** Only for a draft without a faulty place. */
        long toRule() {
            long rule = Packed.emptyRule(characters[0] - 'A');
            for (int i = LEAST_LENGTH; i < length; i++) {
                char c = characters[i];
                rule = Packed.append(rule, Packed.isLetterName(c) ? Packed.letter(c) : c - 'A');
            }
            return rule;
        }
    }

    /** What holds of the variables of a grammar, as bits. */
    private static final class Facts {
        static int fruitful(RuleSet set) {
            return producing(set, true);
        }

        static int nullable(RuleSet set) {
            return producing(set, false);
        }

        private static int producing(RuleSet set, boolean letters) {
            int variables = 0;
            // A round that adds no variable is the last one, so there are no more rounds than variables.
            for (int round = 0; round < Packed.VARIABLES; round++) {
                int before = variables;
                for (int i = 0; i < set.size(); i++) {
                    long rule = set.at(i);
                    if ((Packed.variablesOf(rule) & ~variables) == 0 && (letters || !Packed.hasLetter(rule))) {
                        variables |= 1 << Packed.leftOf(rule);
                    }
                }
                if (variables == before) {
                    break;
                }
            }
            return variables;
        }

        static int reached(RuleSet set) {
            int variables = 1 << Packed.START;
            for (int round = 0; round < Packed.VARIABLES; round++) {
                int before = variables;
                for (int i = 0; i < set.size(); i++) {
                    if (Packed.holds(variables, Packed.leftOf(set.at(i)))) {
                        variables |= Packed.variablesOf(set.at(i));
                    }
                }
                if (variables == before) {
                    break;
                }
            }
            return variables;
        }

        /** Adds to each row all that is reached over its variables, and the variable itself. */
        static void close(int[] rows) {
            for (int i = 0; i < rows.length; i++) {
                rows[i] |= 1 << i;
            }
            for (int middle = 0; middle < rows.length; middle++) {
                for (int i = 0; i < rows.length; i++) {
                    if (Packed.holds(rows[i], middle)) {
                        rows[i] |= rows[middle];
                    }
                }
            }
        }
    }

    /** Removes empty, unit and useless rules; a false answer says that there were too many rules. */
    private static final class Cleaner {
        private final RuleSet before;
        private final int[] renamings;

        Cleaner() {
            before = new RuleSet();
            renamings = new int[Packed.VARIABLES];
        }

        boolean removeEmpty(RuleSet set) {
            int nullable = Facts.nullable(set);
            // What comes of a rule is shorter and so stands before it: counted from the end, no
            // place shifts, and what is left out of the shorter ones is found in the same pass.
            for (int back = 1; back <= RuleSet.MOST_RULES && back <= set.size(); back++) {
                if (!addShorter(set, set.at(set.size() - back), nullable)) {
                    return false;
                }
            }
            for (int i = set.size() - 1; i >= 0; i--) {
                if (Packed.isEmpty(set.at(i))) {
                    set.removeAt(i);
                }
            }
            return true;
        }

        private static boolean addShorter(RuleSet set, long rule, int nullable) {
            for (int k = 1; k <= Packed.lengthOf(rule); k++) {
                int symbol = Packed.symbolOf(rule, k);
                if (Packed.isVariable(symbol) && Packed.holds(nullable, symbol)
                        && !set.put(Packed.without(rule, k))) {
                    return false;
                }
            }
            return true;
        }

        boolean removeUnits(RuleSet set) {
            before.copyFrom(set);
            findRenamings();
            for (int i = 0; i < before.size(); i++) {
                if (!Packed.isUnit(before.at(i)) && !giveToRenamed(set, before.at(i))) {
                    return false;
                }
            }
            for (int i = set.size() - 1; i >= 0; i--) {
                if (Packed.isUnit(set.at(i))) {
                    set.removeAt(i);
                }
            }
            return true;
        }

        private void findRenamings() {
            for (int i = 0; i < renamings.length; i++) {
                renamings[i] = 0;
            }
            for (int i = 0; i < before.size(); i++) {
                if (Packed.isUnit(before.at(i))) {
                    renamings[Packed.leftOf(before.at(i))] |= Packed.variablesOf(before.at(i));
                }
            }
            Facts.close(renamings);
        }

        private boolean giveToRenamed(RuleSet set, long rule) {
            for (int variable = 0; variable < renamings.length; variable++) {
                if (Packed.holds(renamings[variable], Packed.leftOf(rule))
                        && !set.put(Packed.withLeft(rule, variable))) {
                    return false;
                }
            }
            return true;
        }

        /** How many rules went. */
        int removeUseless(RuleSet set) {
            int had = set.size();
            int fruitful = Facts.fruitful(set);
            for (int i = set.size() - 1; i >= 0; i--) {
                int variables = Packed.variablesOf(set.at(i)) | 1 << Packed.leftOf(set.at(i));
                if ((variables & ~fruitful) != 0) {
                    set.removeAt(i);
                }
            }
            int reached = Facts.reached(set);
            for (int i = set.size() - 1; i >= 0; i--) {
                if (!Packed.holds(reached, Packed.leftOf(set.at(i)))) {
                    set.removeAt(i);
                }
            }
            return had - set.size();
        }
    }

    /** Makes Greibach's form; a false answer says that a limit was passed on the way. */
    private static final class GreibachMaker {
        private static final int MOST_REPLACEMENTS = 300;

        private final Cleaner cleaner;
        private final RuleSet before;
        private int replacements;

        GreibachMaker(Cleaner cleaner) {
            this.cleaner = cleaner;
            before = new RuleSet();
            replacements = 0;
        }

        boolean make(RuleSet set) {
            replacements = 0;
            if (!cleaner.removeEmpty(set) || !cleaner.removeUnits(set)) {
                return false;
            }
            cleaner.removeUseless(set);
            int ordered = set.leftSides();
            for (int variable = 0; variable < Packed.VARIABLES; variable++) {
                if (Packed.holds(ordered, variable)
                        && !(replaceEarlierLeads(set, variable) && replaceOwnLeads(set, variable))) {
                    return false;
                }
            }
            return replaceAllLeads(set, ordered) && nameInnerLetters(set);
        }

        /** Step (1). */
        private boolean replaceEarlierLeads(RuleSet set, int variable) {
            for (int round = 0; round <= MOST_REPLACEMENTS; round++) {
                int at = withEarlierLead(set, variable);
                if (at == NONE) {
                    return true;
                }
                if (!replaceLead(set, at)) {
                    return false;
                }
            }
            return false;
        }

        private static int withEarlierLead(RuleSet set, int variable) {
            for (int i = 0; i < set.size(); i++) {
                long rule = set.at(i);
                if (Packed.leftOf(rule) == variable && Packed.lengthOf(rule) > 0
                        && Packed.symbolOf(rule, 1) < variable) {
                    return i;
                }
            }
            return NONE;
        }

        private boolean replaceLead(RuleSet set, int at) {
            replacements++;
            if (replacements > MOST_REPLACEMENTS) {
                return false;
            }
            long replaced = set.at(at);
            int lead = Packed.symbolOf(replaced, 1);
            set.removeAt(at);
            before.copyFrom(set);
            for (int i = 0; i < before.size(); i++) {
                long rule = before.at(i);
                if (Packed.leftOf(rule) == lead) {
                    long begun = Packed.withLeft(rule, Packed.leftOf(replaced));
                    if (!set.put(Packed.appendFrom(begun, replaced, 2))) {
                        return false;
                    }
                }
            }
            return true;
        }

        /** Step (2). */
        private boolean replaceOwnLeads(RuleSet set, int variable) {
            if (!hasOwnLead(set, variable)) {
                return true;
            }
            int tail = set.freeVariable();
            if (tail == NONE) {
                return false;
            }
            before.copyFrom(set);
            for (int i = 0; i < before.size(); i++) {
                long rule = before.at(i);
                if (Packed.leftOf(rule) == variable && !addTail(set, rule, tail)) {
                    return false;
                }
            }
            return true;
        }

        private static boolean hasOwnLead(RuleSet set, int variable) {
            for (int i = 0; i < set.size(); i++) {
                if (Packed.leftOf(set.at(i)) == variable && leadsWithItself(set.at(i))) {
                    return true;
                }
            }
            return false;
        }

        private static boolean leadsWithItself(long rule) {
            return Packed.lengthOf(rule) > 0 && Packed.symbolOf(rule, 1) == Packed.leftOf(rule);
        }

        private static boolean addTail(RuleSet set, long rule, int tail) {
            if (!leadsWithItself(rule)) {
                return set.put(Packed.append(rule, tail));
            }
            set.remove(rule);
            long repeated = Packed.appendFrom(Packed.emptyRule(tail), rule, 2);
            return set.put(repeated) && set.put(Packed.append(repeated, tail));
        }

        /** Step (3). */
        private boolean replaceAllLeads(RuleSet set, int ordered) {
            for (int round = 0; round <= MOST_REPLACEMENTS; round++) {
                int at = nextLead(set, ordered);
                if (at == NONE) {
                    return true;
                }
                if (!replaceLead(set, at)) {
                    return false;
                }
            }
            return false;
        }

        private static int nextLead(RuleSet set, int ordered) {
            int lastOrdered = NONE;
            int firstOther = NONE;
            for (int i = 0; i < set.size(); i++) {
                if (Packed.leadsWithVariable(set.at(i))) {
                    if (Packed.holds(ordered, Packed.leftOf(set.at(i)))) {
                        lastOrdered = i;
                    } else if (firstOther == NONE) {
                        firstOther = i;
                    }
                }
            }
            return lastOrdered != NONE ? lastOrdered : firstOther;
        }

        /** Step (4). */
        private boolean nameInnerLetters(RuleSet set) {
            for (int i = 0; i < Packed.LETTERS; i++) {
                int letter = Packed.VARIABLES + i;
                if (standsInside(set, letter) && !nameLetter(set, letter)) {
                    return false;
                }
            }
            return true;
        }

        private static boolean standsInside(RuleSet set, int letter) {
            for (int i = 0; i < set.size(); i++) {
                if (Packed.hasBehindFirst(set.at(i), letter)) {
                    return true;
                }
            }
            return false;
        }

        private boolean nameLetter(RuleSet set, int letter) {
            int name = set.freeVariable();
            if (name == NONE) {
                return false;
            }
            before.copyFrom(set);
            set.empty();
            for (int i = 0; i < before.size(); i++) {
                if (!set.put(Packed.renamedBehindFirst(before.at(i), letter, name))) {
                    return false;
                }
            }
            return set.put(Packed.append(Packed.emptyRule(name), letter));
        }
    }

    /** FIRST and FOLLOW of all variables. */
    private static final class Lookahead {
        private static final int END = 64;
        private static final int LETTER_BITS = 63;
        // Each round adds a bit of the 7 of a variable, or it is the last one.
        private static final int MOST_ROUNDS = 7 * Packed.VARIABLES + 1;

        private final int[] firsts;
        private final int[] follows;
        private int nullable;

        Lookahead() {
            firsts = new int[Packed.VARIABLES];
            follows = new int[Packed.VARIABLES];
            nullable = 0;
        }

        void study(RuleSet set) {
            nullable = Facts.nullable(set);
            for (int i = 0; i < Packed.VARIABLES; i++) {
                firsts[i] = Packed.holds(nullable, i) ? END : 0;
                follows[i] = 0;
            }
            follows[Packed.START] = END;
            boolean grown = true;
            for (int round = 0; grown && round < MOST_ROUNDS; round++) {
                grown = growFirsts(set);
            }
            grown = true;
            for (int round = 0; grown && round < MOST_ROUNDS; round++) {
                grown = growFollows(set);
            }
        }

        int firstOf(int variable) {
            return firsts[variable];
        }

        int followOf(int variable) {
            return follows[variable];
        }

        private boolean growFirsts(RuleSet set) {
            boolean grown = false;
            for (int i = 0; i < set.size(); i++) {
                int left = Packed.leftOf(set.at(i));
                int more = firsts[left] | lettersAhead(set.at(i));
                grown |= more != firsts[left];
                firsts[left] = more;
            }
            return grown;
        }

        /** FIRST of the right side but for the end. */
        private int lettersAhead(long rule) {
            int letters = 0;
            for (int k = 1; k <= Packed.lengthOf(rule); k++) {
                int symbol = Packed.symbolOf(rule, k);
                letters |= lettersOf(symbol);
                if (!mayVanish(symbol)) {
                    break;
                }
            }
            return letters;
        }

        private int lettersOf(int symbol) {
            return Packed.isVariable(symbol) ? firsts[symbol] & LETTER_BITS : 1 << (symbol - Packed.VARIABLES);
        }

        private boolean mayVanish(int symbol) {
            return Packed.isVariable(symbol) && Packed.holds(nullable, symbol);
        }

        private boolean growFollows(RuleSet set) {
            boolean grown = false;
            for (int i = 0; i < set.size(); i++) {
                grown |= growFollowsBy(set.at(i));
            }
            return grown;
        }

        private boolean growFollowsBy(long rule) {
            boolean grown = false;
            int behind = follows[Packed.leftOf(rule)];
            for (int k = Packed.lengthOf(rule); k >= 1; k--) {
                int symbol = Packed.symbolOf(rule, k);
                if (Packed.isVariable(symbol)) {
                    grown |= (behind & ~follows[symbol]) != 0;
                    follows[symbol] |= behind;
                }
                behind = mayVanish(symbol) ? behind | lettersOf(symbol) : lettersOf(symbol);
            }
            return grown;
        }

        /** Whether one letter ahead always chooses among the rules of a variable. */
        boolean choosesAlways(RuleSet set) {
            for (int i = 0; i < set.size(); i++) {
                for (int j = i + 1; j < set.size(); j++) {
                    if (Packed.leftOf(set.at(i)) == Packed.leftOf(set.at(j))
                            && (chosenBy(set.at(i)) & chosenBy(set.at(j))) != 0) {
                        return false;
                    }
                }
            }
            return true;
        }

        private int chosenBy(long rule) {
            boolean vanishes = !Packed.hasLetter(rule) && (Packed.variablesOf(rule) & ~nullable) == 0;
            return lettersAhead(rule) | (vanishes ? follows[Packed.leftOf(rule)] : 0);
        }
    }

    /** Tells whether a grammar without useless rules produces finitely many words. */
    private static final class Growth {
        private final int[] descendants;

        Growth() {
            descendants = new int[Packed.VARIABLES];
        }

        /**
         * Without useless rules there are infinitely many words just if a variable comes back to
         * itself beside something that produces a letter.
         */
        boolean isFinite(RuleSet set) {
            findDescendants(set);
            int lettered = lettered(set);
            for (int i = 0; i < set.size(); i++) {
                if (pumps(set.at(i), lettered)) {
                    return false;
                }
            }
            return true;
        }

        private void findDescendants(RuleSet set) {
            for (int i = 0; i < descendants.length; i++) {
                descendants[i] = 0;
            }
            for (int i = 0; i < set.size(); i++) {
                descendants[Packed.leftOf(set.at(i))] |= Packed.variablesOf(set.at(i));
            }
            Facts.close(descendants);
        }

        /** The variables that produce a word that is not empty. */
        private static int lettered(RuleSet set) {
            int variables = 0;
            for (int round = 0; round < Packed.VARIABLES; round++) {
                int before = variables;
                for (int i = 0; i < set.size(); i++) {
                    long rule = set.at(i);
                    if (Packed.hasLetter(rule) || (Packed.variablesOf(rule) & variables) != 0) {
                        variables |= 1 << Packed.leftOf(rule);
                    }
                }
                if (variables == before) {
                    break;
                }
            }
            return variables;
        }

        private boolean pumps(long rule, int lettered) {
            int letteredSymbols = 0;
            for (int k = 1; k <= Packed.lengthOf(rule); k++) {
                letteredSymbols += isLettered(Packed.symbolOf(rule, k), lettered) ? 1 : 0;
            }
            for (int k = 1; k <= Packed.lengthOf(rule); k++) {
                int symbol = Packed.symbolOf(rule, k);
                int others = letteredSymbols - (isLettered(symbol, lettered) ? 1 : 0);
                if (Packed.isVariable(symbol) && others > 0
                        && Packed.holds(descendants[symbol], Packed.leftOf(rule))) {
                    return true;
                }
            }
            return false;
        }

        private static boolean isLettered(int symbol, int lettered) {
            return !Packed.isVariable(symbol) || Packed.holds(lettered, symbol);
        }
    }

    /** The word, tried against rules, and the derivation that was found for it. */
    private static final class Trial {
        private static final int MOST_LETTERS = 10;
        private static final int PLACES = MOST_LETTERS + 1;
        private static final int MOST_WAYS = 1000000;
        // Each round adds a place to a variable, or it is the last one.
        private static final int MOST_ROUNDS = PLACES * Packed.VARIABLES + 1;

        private final int[] word;
        private int length;
        // For a variable and a place of the word: where what it produces from there may end, as bits.
        private final int[] ends;
        // For a variable and two places: in how many ways it derives what is between them.
        private final int[] counts;
        private final long[] partial;
        private final int[] steps;
        private int stepsFound;
        // The variables not yet replaced, the leftmost one on top.
        private final int[] pending;
        private int waiting;

        Trial() {
            word = new int[MOST_LETTERS];
            length = 0;
            ends = new int[Packed.VARIABLES * PLACES];
            counts = new int[Packed.VARIABLES * PLACES * PLACES];
            partial = new long[PLACES];
            steps = new int[MOST_LETTERS];
            stepsFound = 0;
            pending = new int[MOST_LETTERS + Packed.MOST_SYMBOLS];
            waiting = 0;
        }

        boolean add(int letter) {
            if (length >= MOST_LETTERS) {
                return false;
            }
            word[length] = letter;
            length++;
            forget();
            return true;
        }

        int erase() {
            int had = length;
            if (had > 0) {
                length = 0;
                forget();
            }
            return had;
        }

        void forget() {
            stepsFound = 0;
        }

        int found() {
            return stepsFound;
        }

        int stepAt(int k) {
            return steps[k];
        }

        boolean isProduced(RuleSet set) {
            for (int i = 0; i < ends.length; i++) {
                ends[i] = 0;
            }
            for (int at = length; at >= 0; at--) {
                boolean grown = true;
                for (int round = 0; grown && round < MOST_ROUNDS; round++) {
                    grown = growEnds(set, at);
                }
            }
            return isEnd(ends[Packed.START * PLACES]);
        }

        private boolean isEnd(int places) {
            return (places >> length & 1) != 0;
        }

        private boolean growEnds(RuleSet set, int at) {
            boolean grown = false;
            for (int i = 0; i < set.size(); i++) {
                int cell = Packed.leftOf(set.at(i)) * PLACES + at;
                int more = ends[cell] | endsOfRow(set.at(i), 1 << at);
                grown |= more != ends[cell];
                ends[cell] = more;
            }
            return grown;
        }

        private int endsOfRow(long rule, int starts) {
            int places = starts;
            for (int k = 1; k <= Packed.lengthOf(rule) && places != 0; k++) {
                places = endsOfSymbol(Packed.symbolOf(rule, k), places);
            }
            return places;
        }

        private int endsOfSymbol(int symbol, int starts) {
            return Packed.isVariable(symbol) ? endsOfVariable(symbol, starts) : endsOfLetter(symbol, starts);
        }

        private int endsOfVariable(int variable, int starts) {
            int places = 0;
            for (int at = 0; at <= length; at++) {
                if ((starts >> at & 1) != 0) {
                    places |= ends[variable * PLACES + at];
                }
            }
            return places;
        }

        private int endsOfLetter(int letter, int starts) {
            int places = 0;
            for (int at = 0; at < length; at++) {
                if ((starts >> at & 1) != 0 && word[at] == letter) {
                    places |= 1 << (at + 1);
                }
            }
            return places;
        }

        /** Only for rules of which none is empty or a unit. */
        int countWays(RuleSet set) {
            if (length == 0) {
                return 0;
            }
            for (int from = length - 1; from >= 0; from--) {
                for (int to = from + 1; to <= length; to++) {
                    countBetween(set, from, to);
                }
            }
            return counts[cellOf(Packed.START, 0, length)];
        }

        private static int cellOf(int variable, int from, int to) {
            return (variable * PLACES + from) * PLACES + to;
        }

        private void countBetween(RuleSet set, int from, int to) {
            for (int variable = 0; variable < Packed.VARIABLES; variable++) {
                counts[cellOf(variable, from, to)] = 0;
            }
            for (int i = 0; i < set.size(); i++) {
                int cell = cellOf(Packed.leftOf(set.at(i)), from, to);
                counts[cell] = (int) Math.min(MOST_WAYS, counts[cell] + waysOfRow(set.at(i), from, to));
            }
        }

        /** Each symbol has a letter at least, so that only shorter parts of the word are asked for. */
        private long waysOfRow(long rule, int from, int to) {
            int symbols = Packed.lengthOf(rule);
            if (symbols > to - from) {
                return 0;
            }
            for (int at = from; at <= to; at++) {
                partial[at] = at == from ? 1 : 0;
            }
            for (int k = 1; k <= symbols; k++) {
                for (int at = to; at >= from; at--) {
                    boolean roomBehind = at + symbols - k <= to;
                    partial[at] = roomBehind ? waysUpTo(Packed.symbolOf(rule, k), from, at) : 0;
                }
            }
            return partial[to];
        }

        private long waysUpTo(int symbol, int from, int to) {
            long sum = 0;
            for (int at = from; at < to; at++) {
                if (partial[at] != 0) {
                    sum += partial[at] * waysOfSymbol(symbol, at, to);
                }
            }
            return Math.min(MOST_WAYS, sum);
        }

        private int waysOfSymbol(int symbol, int from, int to) {
            if (Packed.isVariable(symbol)) {
                return counts[cellOf(symbol, from, to)];
            }
            return to == from + 1 && word[from] == symbol ? 1 : 0;
        }

        /** Only for rules in Greibach's form: each step takes a letter of the word. */
        boolean search(RuleSet set) {
            forget();
            if (!isProduced(set)) {
                return false;
            }
            pending[0] = Packed.START;
            waiting = 1;
            for (int at = 0; at < length; at++) {
                int chosen = leastFitting(set, at);
                if (chosen == NONE) {
                    return false;
                }
                steps[at] = chosen;
                replaceTop(set.at(chosen));
            }
            stepsFound = length;
            return true;
        }

        /** The least rule for the leftmost variable by which the rest of the word can still come. */
        private int leastFitting(RuleSet set, int at) {
            if (waiting == 0) {
                return NONE;
            }
            for (int i = 0; i < set.size(); i++) {
                if (Packed.leftOf(set.at(i)) == pending[waiting - 1]) {
                    int places = endsOfRow(set.at(i), 1 << at);
                    for (int below = waiting - 2; below >= 0; below--) {
                        places = endsOfSymbol(pending[below], places);
                    }
                    if (isEnd(places)) {
                        return i;
                    }
                }
            }
            return NONE;
        }

        private void replaceTop(long rule) {
            waiting--;
            for (int k = Packed.lengthOf(rule); k >= 2 && waiting < pending.length; k--) {
                pending[waiting] = Packed.symbolOf(rule, k);
                waiting++;
            }
        }
    }
}
