/** An object under test that counts its calls: what it answers behind the 512th is free, so no test may ask for it. */
final class Used {
    static final int MOST_CALLS = 512;

    private final Mergeparlour text = new Mergeparlour();
    private int calls = 0;

    private Mergeparlour next() {
        calls++;
        if (calls > MOST_CALLS) {
            throw new AssertionError("a test makes more than " + MOST_CALLS + " calls");
        }
        return text;
    }

    int callsLeft() {
        return MOST_CALLS - calls;
    }

    int insert(int site, int behind, int value, boolean begins) {
        return next().insert(site, behind, value, begins);
    }

    int remove(int site, int line) {
        return next().remove(site, line);
    }

    int note(int site, int line, int rows) {
        return next().note(site, line, rows);
    }

    /** Answers a word, so that it can stand where an answer is asked for. */
    String move(int site, int note, int line) {
        next().move(site, note, line);
        return "moved";
    }

    int sync(int from, int to) {
        return next().sync(from, to);
    }

    int print() {
        return next().print();
    }

    int sheets() {
        return next().sheets();
    }

    int differs(int page) {
        return next().differs(page);
    }

    int cost() {
        return next().cost();
    }

    int lines(int site) {
        return next().lines(site);
    }

    int lineAt(int site, int place, int what) {
        return next().lineAt(site, place, what);
    }

    int lineAnew(int site, int place) {
        return next().lineAnew(site, place);
    }

    int noteAt(int site, int note) {
        return next().noteAt(site, note);
    }

    int pages(int site) {
        return next().pages(site);
    }

    int aheadAnew(int site, int page) {
        return next().aheadAnew(site, page);
    }

    int known(int site) {
        return next().known(site);
    }
}
