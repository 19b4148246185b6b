/**
 * A GrammarDesk that counts its calls: the document leaves free what is answered after the 512th, so
 * no test may lean on it.
 */
final class Desk {
    private static final int MOST_CALLS = 512;

    private final GrammarDesk inside = new GrammarDesk();
    private int calls = 0;

    private GrammarDesk next() {
        calls++;
        if (calls > MOST_CALLS) {
            throw new AssertionError("the test uses an object for more than " + MOST_CALLS + " calls");
        }
        return inside;
    }

    int callsLeft() {
        return MOST_CALLS - calls;
    }

    boolean type(char c) {
        return next().type(c);
    }

    int rule() {
        return next().rule();
    }

    int place() {
        return next().place();
    }

    boolean drop(int i) {
        return next().drop(i);
    }

    int clear() {
        return next().clear();
    }

    int rules() {
        return next().rules();
    }

    int symbol(int i, int k) {
        return next().symbol(i, k);
    }

    int useful() {
        return next().useful();
    }

    int solid() {
        return next().solid();
    }

    int plain() {
        return next().plain();
    }

    int greibach() {
        return next().greibach();
    }

    int shape() {
        return next().shape();
    }

    boolean language(int what) {
        return next().language(what);
    }

    int first(char variable) {
        return next().first(variable);
    }

    int follow(char variable) {
        return next().follow(variable);
    }

    boolean single() {
        return next().single();
    }

    boolean feed(char c) {
        return next().feed(c);
    }

    int wipe() {
        return next().wipe();
    }

    boolean derives() {
        return next().derives();
    }

    int ways() {
        return next().ways();
    }

    int derive() {
        return next().derive();
    }

    int step(int k) {
        return next().step(k);
    }
}
