import java.math.BigInteger;
import java.util.ArrayList;
import java.util.HashMap;
import java.util.HashSet;
import java.util.List;
import java.util.Map;
import java.util.Random;
import java.util.Set;
import java.util.TreeMap;
import java.util.TreeSet;

/**
 * The document once more, as literally as it goes and with no care for speed: rules are texts (the
 * left side and then the right side), and each call does what its promise says, word by word.
 */
final class GrammarModel {
    private static final String LETTERS = "abcdef";
    private static final String VARIABLES = "ABCDEFGHIJKLMNOP";

    private TreeSet<String> rules = ordered();
    private String draft = "";
    private String word = "";
    private int place = -1;
    private List<Integer> derivation = null;

    /** Variables have lower codes than letters, so codes are the ORDER of symbols. */
    private static TreeSet<String> ordered() {
        return new TreeSet<>((x, y) -> {
            if (x.charAt(0) != y.charAt(0)) {
                return x.charAt(0) - y.charAt(0);
            }
            return x.length() != y.length() ? x.length() - y.length() : x.compareTo(y);
        });
    }

    private static TreeSet<String> copy(TreeSet<String> set) {
        TreeSet<String> copy = ordered();
        copy.addAll(set);
        return copy;
    }

    private static boolean isVariable(char c) {
        return VARIABLES.indexOf(c) >= 0;
    }

    private static void put(TreeSet<String> set, String rule) {
        set.add(rule);
        if (set.size() > 60 || rule.length() > 11) {
            throw new UnsupportedOperationException();
        }
    }

    private void become(TreeSet<String> set) {
        if (!set.equals(rules)) {
            derivation = null;
        }
        rules = set;
    }

    static int waysOf(String text, String word) {
        GrammarModel model = new GrammarModel();
        for (String rule : text.split(" ")) {
            model.rules.add(rule.replace(":", ""));
        }
        model.word = word;
        return model.ways();
    }

    String text() {
        StringBuilder text = new StringBuilder();
        for (String rule : rules) {
            text.append(text.length() == 0 ? "" : " ").append(rule.charAt(0)).append(':').append(rule.substring(1));
        }
        return text.toString();
    }

    /** A word that the rules lead to by chance, of ten letters at most, or what such a try came to. */
    String someWord(Random random) {
        String row = "A";
        for (int tries = 0; tries < 60; tries++) {
            int at = 0;
            while (at < row.length() && !isVariable(row.charAt(at))) {
                at++;
            }
            if (at == row.length()) {
                break;
            }
            List<String> fit = new ArrayList<>();
            for (String rule : rules) {
                if (rule.charAt(0) == row.charAt(at) && row.length() + rule.length() - 2 <= 10) {
                    fit.add(rule.substring(1));
                }
            }
            if (fit.isEmpty()) {
                break;
            }
            row = row.substring(0, at) + fit.get(random.nextInt(fit.size())) + row.substring(at + 1);
        }
        return row.replaceAll("[A-P]", "");
    }

    boolean type(char c) {
        if (c < 32 || c > 126 || draft.length() == 9) {
            return false;
        }
        draft += c;
        return true;
    }

    int rule() {
        String taken = draft;
        draft = "";
        if (!taken.matches("[A-H]:[A-Ha-f]{0,6}")) {
            place = 0;
            while (place < taken.length() && taken.substring(0, place + 1).matches("[A-H](:[A-Ha-f]{0,6})?")) {
                place++;
            }
            throw new IllegalArgumentException();
        }
        place = -1;
        String rule = taken.replace(":", "");
        TreeSet<String> more = copy(rules);
        put(more, rule);
        become(more);
        return rules.headSet(rule).size();
    }

    int place() {
        return place;
    }

    boolean drop(int i) {
        if (i < 0 || i >= rules.size()) {
            return false;
        }
        TreeSet<String> fewer = copy(rules);
        fewer.remove(new ArrayList<>(rules).get(i));
        become(fewer);
        return true;
    }

    int clear() {
        int gone = rules.size();
        become(ordered());
        return gone;
    }

    int rules() {
        return rules.size();
    }

    int symbol(int i, int k) {
        if (i < 0 || i >= rules.size()) {
            return -1;
        }
        String rule = new ArrayList<>(rules).get(i);
        return k < 0 || k >= rule.length() ? -1 : rule.charAt(k);
    }

    private static Set<Character> fruitful(Set<String> set) {
        Set<Character> found = new HashSet<>();
        for (boolean more = true; more;) {
            more = false;
            for (String rule : set) {
                boolean all = true;
                for (char c : rule.substring(1).toCharArray()) {
                    all &= !isVariable(c) || found.contains(c);
                }
                more |= all && found.add(rule.charAt(0));
            }
        }
        return found;
    }

    private static Set<Character> nullable(Set<String> set) {
        TreeSet<String> letterless = ordered();
        for (String rule : set) {
            if (rule.matches("[A-P]*")) {
                letterless.add(rule);
            }
        }
        return fruitful(letterless);
    }

    private static TreeSet<String> withoutUseless(TreeSet<String> set) {
        TreeSet<String> kept = copy(set);
        Set<Character> fruitful = fruitful(set);
        kept.removeIf(rule -> rule.chars().anyMatch(c -> isVariable((char) c) && !fruitful.contains((char) c)));
        Set<Character> reached = new HashSet<>();
        List<Character> todo = new ArrayList<>();
        todo.add('A');
        while (!todo.isEmpty()) {
            char x = todo.remove(0);
            if (reached.add(x)) {
                for (String rule : kept) {
                    if (rule.charAt(0) == x) {
                        for (char c : rule.substring(1).toCharArray()) {
                            if (isVariable(c)) {
                                todo.add(c);
                            }
                        }
                    }
                }
            }
        }
        kept.removeIf(rule -> !reached.contains(rule.charAt(0)));
        return kept;
    }

    private static void leaveOut(String done, String rest, Set<Character> nullable, Set<String> out) {
        if (rest.isEmpty()) {
            out.add(done);
            return;
        }
        leaveOut(done + rest.charAt(0), rest.substring(1), nullable, out);
        if (nullable.contains(rest.charAt(0))) {
            leaveOut(done, rest.substring(1), nullable, out);
        }
    }

    private static TreeSet<String> withoutEmpty(TreeSet<String> set, boolean limited) {
        Set<Character> nullable = nullable(set);
        TreeSet<String> all = copy(set);
        for (String rule : set) {
            Set<String> come = new HashSet<>();
            leaveOut(rule.substring(0, 1), rule.substring(1), nullable, come);
            all.addAll(come);
        }
        if (limited && all.size() > 60) {
            throw new UnsupportedOperationException();
        }
        all.removeIf(rule -> rule.length() == 1);
        return all;
    }

    private static boolean isUnit(String rule) {
        return rule.matches("[A-P][A-P]");
    }

    private static TreeSet<String> withoutUnits(TreeSet<String> set, boolean limited) {
        TreeSet<String> all = copy(set);
        for (char x : VARIABLES.toCharArray()) {
            Set<Character> from = new HashSet<>();
            from.add(x);
            for (int round = 0; round < 16; round++) {
                for (String rule : set) {
                    if (isUnit(rule) && from.contains(rule.charAt(0))) {
                        from.add(rule.charAt(1));
                    }
                }
            }
            for (String rule : set) {
                if (!isUnit(rule) && from.contains(rule.charAt(0))) {
                    all.add(x + rule.substring(1));
                }
            }
        }
        if (limited && all.size() > 60) {
            throw new UnsupportedOperationException();
        }
        all.removeIf(GrammarModel::isUnit);
        return all;
    }

    int useful() {
        int had = rules.size();
        become(withoutUseless(rules));
        return had - rules.size();
    }

    int solid() {
        become(withoutEmpty(rules, true));
        return rules.size();
    }

    int plain() {
        become(withoutUnits(rules, true));
        return rules.size();
    }

    private int replacements;

    private void replaceLead(TreeSet<String> set, String rule) {
        replacements++;
        if (replacements > 300) {
            throw new UnsupportedOperationException();
        }
        set.remove(rule);
        for (String other : copy(set)) {
            if (other.charAt(0) == rule.charAt(1)) {
                put(set, rule.charAt(0) + other.substring(1) + rule.substring(2));
            }
        }
    }

    private static char freeVariable(Set<String> set) {
        for (char c : VARIABLES.toCharArray()) {
            if (set.stream().noneMatch(rule -> rule.indexOf(c) >= 0)) {
                return c;
            }
        }
        throw new UnsupportedOperationException();
    }

    private static String firstMatch(Set<String> set, String pattern) {
        return set.stream().filter(rule -> rule.matches(pattern)).findFirst().orElse(null);
    }

    private static void replaceOwnLeads(TreeSet<String> set, char x) {
        if (firstMatch(set, "" + x + x + ".*") == null) {
            return;
        }
        char z = freeVariable(set);
        TreeSet<String> had = copy(set);
        set.removeIf(rule -> rule.charAt(0) == x && rule.charAt(1) == x);
        for (String rule : had) {
            if (rule.charAt(0) == x && rule.charAt(1) == x) {
                put(set, z + rule.substring(2));
                put(set, z + rule.substring(2) + z);
            } else if (rule.charAt(0) == x) {
                put(set, rule + z);
            }
        }
    }

    private static TreeSet<String> nameLetter(TreeSet<String> set, char letter) {
        char name = freeVariable(set);
        TreeSet<String> named = ordered();
        for (String rule : set) {
            put(named, rule.substring(0, 2) + rule.substring(2).replace(letter, name));
        }
        put(named, "" + name + letter);
        return named;
    }

    private static String nextLead(TreeSet<String> set, String done) {
        String rule = firstMatch(set.descendingSet(), "[" + done + "][A-P].*");
        return rule != null ? rule : firstMatch(set, "[A-P][A-P].*");
    }

    int greibach() {
        replacements = 0;
        TreeSet<String> set = withoutUseless(withoutUnits(withoutEmpty(rules, true), true));
        StringBuilder done = new StringBuilder();
        for (char x : VARIABLES.toCharArray()) {
            if (set.stream().anyMatch(rule -> rule.charAt(0) == x)) {
                done.append(x);
            }
        }
        for (char x : done.toString().toCharArray()) {
            String earlier = x == 'A' ? "[A-P]{99}" : x + "[A-" + (char) (x - 1) + "].*";
            for (String rule = firstMatch(set, earlier); rule != null; rule = firstMatch(set, earlier)) {
                replaceLead(set, rule);
            }
            replaceOwnLeads(set, x);
        }
        if (done.length() > 0) {
            for (String rule = nextLead(set, "" + done); rule != null; rule = nextLead(set, "" + done)) {
                replaceLead(set, rule);
            }
        }
        for (char letter : LETTERS.toCharArray()) {
            if (firstMatch(set, ".." + ".*" + letter + ".*") != null) {
                set = nameLetter(set, letter);
            }
        }
        become(set);
        return rules.size();
    }

    private boolean isGreibach() {
        return rules.stream().allMatch(rule -> rule.matches("[A-P][a-f][A-P]*"));
    }

    int shape() {
        return (rules.stream().noneMatch(rule -> rule.length() == 1) ? 1 : 0)
            + (rules.stream().noneMatch(GrammarModel::isUnit) ? 2 : 0)
            + (withoutUseless(rules).size() == rules.size() ? 4 : 0)
            + (isGreibach() ? 8 : 0);
    }

    /** Cleaned of all there is infinity just if a variable comes back to itself at all. */
    private boolean isFinite() {
        TreeSet<String> set = withoutUseless(withoutUnits(withoutEmpty(rules, false), false));
        for (char x : VARIABLES.toCharArray()) {
            Set<Character> below = new HashSet<>();
            for (int round = 0; round <= 16; round++) {
                for (String rule : set) {
                    if (rule.charAt(0) == x || below.contains(rule.charAt(0))) {
                        for (char c : rule.substring(1).toCharArray()) {
                            below.add(c);
                        }
                    }
                }
            }
            if (below.contains(x)) {
                return false;
            }
        }
        return true;
    }

    boolean language(int what) {
        return what == 0 && !fruitful(rules).contains('A')
            || what == 1 && isFinite()
            || what == 2 && nullable(rules).contains('A');
    }

    private static int bits(Set<Character> set) {
        int sum = 0;
        for (char c : set) {
            sum += c == '$' ? 64 : 1 << (c - 'a');
        }
        return sum;
    }

    /** FIRST of a row of symbols, with '$' if it is nullable as a whole. */
    private static Set<Character> firstOfRow(String row, Map<Character, Set<Character>> firsts, Set<Character> nullable) {
        Set<Character> found = new HashSet<>();
        for (char c : row.toCharArray()) {
            if (!isVariable(c)) {
                found.add(c);
                return found;
            }
            found.addAll(firsts.get(c));
            if (!nullable.contains(c)) {
                return found;
            }
        }
        found.add('$');
        return found;
    }

    /** FIRST of each variable, but for '$'. */
    private Map<Character, Set<Character>> firsts() {
        Map<Character, Set<Character>> firsts = new TreeMap<>();
        for (char x : VARIABLES.toCharArray()) {
            firsts.put(x, new HashSet<>());
        }
        Set<Character> nullable = nullable(rules);
        for (boolean more = true; more;) {
            more = false;
            for (String rule : rules) {
                Set<Character> found = firstOfRow(rule.substring(1), firsts, nullable);
                found.remove('$');
                more |= firsts.get(rule.charAt(0)).addAll(found);
            }
        }
        return firsts;
    }

    private Map<Character, Set<Character>> follows(Map<Character, Set<Character>> firsts, Set<Character> nullable) {
        Map<Character, Set<Character>> follows = new TreeMap<>();
        for (char x : VARIABLES.toCharArray()) {
            follows.put(x, new HashSet<>());
        }
        follows.get('A').add('$');
        for (boolean more = true; more;) {
            more = false;
            for (String rule : rules) {
                for (int k = 1; k < rule.length(); k++) {
                    if (isVariable(rule.charAt(k))) {
                        Set<Character> found = firstOfRow(rule.substring(k + 1), firsts, nullable);
                        if (found.remove('$')) {
                            found.addAll(follows.get(rule.charAt(0)));
                        }
                        more |= follows.get(rule.charAt(k)).addAll(found);
                    }
                }
            }
        }
        return follows;
    }

    int first(char variable) {
        if (!isVariable(variable)) {
            return 0;
        }
        return bits(firsts().get(variable)) + (nullable(rules).contains(variable) ? 64 : 0);
    }

    int follow(char variable) {
        return isVariable(variable) ? bits(follows(firsts(), nullable(rules)).get(variable)) : 0;
    }

    boolean single() {
        Map<Character, Set<Character>> firsts = firsts();
        Set<Character> nullable = nullable(rules);
        Map<Character, Set<Character>> follows = follows(firsts, nullable);
        Map<Character, Set<Character>> taken = new HashMap<>();
        for (String rule : rules) {
            Set<Character> chosen = firstOfRow(rule.substring(1), firsts, nullable);
            if (chosen.remove('$')) {
                chosen.addAll(follows.get(rule.charAt(0)));
            }
            Set<Character> before = taken.computeIfAbsent(rule.charAt(0), x -> new HashSet<>());
            for (char c : chosen) {
                if (!before.add(c)) {
                    return false;
                }
            }
        }
        return true;
    }

    boolean feed(char c) {
        if (LETTERS.indexOf(c) < 0 || word.length() == 10) {
            return false;
        }
        word += c;
        derivation = null;
        return true;
    }

    int wipe() {
        int had = word.length();
        word = "";
        derivation = had > 0 ? null : derivation;
        return had;
    }

    /** For each variable the parts of the word that it produces, found by joining such parts. */
    boolean derives() {
        Map<Character, Set<String>> parts = new HashMap<>();
        for (char x : VARIABLES.toCharArray()) {
            parts.put(x, new HashSet<>());
        }
        for (boolean more = true; more;) {
            more = false;
            for (String rule : rules) {
                Set<String> rows = new HashSet<>();
                rows.add("");
                for (char c : rule.substring(1).toCharArray()) {
                    Set<String> longer = new HashSet<>();
                    for (String row : rows) {
                        for (String part : isVariable(c) ? parts.get(c) : Set.of("" + c)) {
                            if (word.contains(row + part)) {
                                longer.add(row + part);
                            }
                        }
                    }
                    rows = longer;
                }
                more |= parts.get(rule.charAt(0)).addAll(rows);
            }
        }
        return parts.get('A').contains(word);
    }

    private BigInteger leftmost(String row, String rest, Map<String, BigInteger> known) {
        if (row.isEmpty() || row.length() > rest.length()) {
            return row.isEmpty() && rest.isEmpty() ? BigInteger.ONE : BigInteger.ZERO;
        }
        if (!isVariable(row.charAt(0))) {
            return row.charAt(0) == rest.charAt(0) ? leftmost(row.substring(1), rest.substring(1), known)
                : BigInteger.ZERO;
        }
        String key = row + " " + rest.length();
        BigInteger sum = known.get(key);
        if (sum == null) {
            sum = BigInteger.ZERO;
            for (String rule : rules) {
                if (rule.charAt(0) == row.charAt(0)) {
                    sum = sum.add(leftmost(rule.substring(1) + row.substring(1), rest, known));
                }
            }
            known.put(key, sum);
        }
        return sum;
    }

    int ways() {
        if (rules.stream().anyMatch(rule -> rule.length() == 1 || isUnit(rule))) {
            throw new IllegalStateException();
        }
        return leftmost("A", word, new HashMap<>()).min(BigInteger.valueOf(1000000)).intValue();
    }

    int derive() {
        derivation = null;
        if (!isGreibach()) {
            throw new IllegalStateException();
        }
        List<Integer> found = new ArrayList<>();
        if (!search("A", word, found, new HashSet<>())) {
            throw new IllegalArgumentException();
        }
        derivation = found;
        return found.size();
    }

    private boolean search(String row, String rest, List<Integer> found, Set<String> vain) {
        if (row.isEmpty() || rest.isEmpty() || row.length() > rest.length()) {
            return row.isEmpty() && rest.isEmpty();
        }
        if (vain.contains(row + " " + rest)) {
            return false;
        }
        int number = 0;
        for (String rule : rules) {
            if (rule.charAt(0) == row.charAt(0) && rule.charAt(1) == rest.charAt(0)) {
                found.add(number);
                if (search(rule.substring(2) + row.substring(1), rest.substring(1), found, vain)) {
                    return true;
                }
                found.remove(found.size() - 1);
            }
            number++;
        }
        vain.add(row + " " + rest);
        return false;
    }

    int step(int k) {
        return derivation == null || k < 0 || k >= derivation.size() ? -1 : derivation.get(k);
    }
}
