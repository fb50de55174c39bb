/** The throws clauses of the promises and Terms, "Exceptions": what each call throws, and which first. */
final class RefusalSentences {
    private static final int NONE = Mergeparlour.NONE;
    private static final Class<IndexOutOfBoundsException> OUT = Refused.OUT;
    private static final Class<IllegalArgumentException> ARG = Refused.ARG;
    private static final Class<java.util.NoSuchElementException> NOT = Refused.NOT;
    private static final Class<IllegalStateException> STATE = Refused.STATE;
    private static final int[] NO_VALUES = {-1, 100, 101, Texts.MIN, Texts.MAX};
    private static final int[] NO_ROWS = {0, -1, 4, 5, Texts.MIN, Texts.MAX};
    private static final int[] NO_WHATS = {-1, 5, 6, Texts.MIN, Texts.MAX};
    /** Beside NONE: below 0, those that site 0 of Texts.mixed() does not know, and such as were never made. */
    private static final int[] NO_LINES = {-2, 3, 4, 90, Texts.MIN, Texts.MAX};
    private static final int[] NO_NOTES = {-1, -2, 1, 2, 90, Texts.MIN, Texts.MAX};

    private RefusalSentences() {
    }

    static void check() {
        insertOutOfBounds();
        insertOutOfRange();
        insertWithoutRoom();
        removeOutOfBounds();
        removeNotThere();
        removeWithoutRoom();
        noteOutOfBounds();
        noteOutOfRange();
        noteNotThere();
        noteWithoutRoom();
        moveOutOfBounds();
        moveNotThere();
        moveWithoutRoom();
        syncOutOfBounds();
        printWithoutPage();
        differsOutOfBounds();
        linesOutOfBounds();
        lineAtOutOfBounds();
        lineAtOutOfRange();
        lineAnewOutOfBounds();
        noteAtOutOfBounds();
        pagesOutOfBounds();
        aheadAnewOutOfBounds();
        knownOutOfBounds();
        outOfBoundsSays();
        illegalArgumentSays();
        othersSay();
        theFirstOneNamed();
        nothingIsChanged();
        none();
        Sentences.checkNoneIsLeft("Exceptions");
    }

    private static void mixed(Class<? extends RuntimeException> want, String what, Refused.Act act) {
        Refused.by(want, what, Texts::mixed, act);
    }

    private static void full(Class<? extends RuntimeException> want, String what, Refused.Act act) {
        Refused.by(want, what, Texts::full, act);
    }

    private static void insertOutOfBounds() {
        Sentences.name("Promise 2", "Throws `IndexOutOfBoundsException` as told, of the site, or if behind is neither such a line nor "
                + "NONE");
        for (int site : Texts.noSites()) {
            mixed(OUT, "insert at site " + site, x -> x.insert(site, NONE, 1, true));
        }
        for (int behind : NO_LINES) {
            mixed(OUT, "insert behind " + behind, x -> x.insert(0, behind, 1, true));
        }
        mixed(OUT, "insert behind what another site knows", x -> x.insert(1, 0, 1, true));
        Checks.due("behind one that was taken out", 4, Texts.mixed().insert(0, 1, 1, true));
        Checks.due("behind none", 4, Texts.mixed().insert(0, NONE, 1, true));
    }

    private static void insertOutOfRange() {
        Sentences.name("Promise 2", "Throws `IllegalArgumentException` if value is out of range");
        for (int value : NO_VALUES) {
            mixed(ARG, "insert value " + value, x -> x.insert(0, NONE, value, true));
            mixed(ARG, "insert value " + value, x -> x.insert(0, 1, value, false));
        }
    }

    private static void insertWithoutRoom() {
        Sentences.name("Promise 2", "Throws `IllegalStateException` if there were 90 deeds");
        for (int site = 0; site < 4; site++) {
            int asked = site;
            full(STATE, "insert at site " + site, x -> x.insert(asked, NONE, 1, true));
        }
        full(STATE, "insert behind a line", x -> x.insert(0, 1, 1, false));
        Checks.due("if there were 89", 2, Texts.withDeeds(89).insert(3, NONE, 1, true));
    }

    private static void removeOutOfBounds() {
        Sentences.name("Promise 3", "Throws `IndexOutOfBoundsException` as told, of the site or the line");
        for (int site : Texts.noSites()) {
            mixed(OUT, "remove at site " + site, x -> x.remove(site, 0));
        }
        mixed(OUT, "remove NONE", x -> x.remove(0, NONE));
        for (int line : NO_LINES) {
            mixed(OUT, "remove line " + line, x -> x.remove(0, line));
        }
        mixed(OUT, "remove what another site knows", x -> x.remove(1, 0));
        mixed(OUT, "remove what another site took out", x -> x.remove(1, 1));
    }

    private static void removeNotThere() {
        Sentences.name("Promise 3", "Throws `NoSuchElementException` if it is not there");
        mixed(NOT, "remove what it took out", x -> x.remove(0, 1));
        mixed(NOT, "remove what came taken out", x -> x.remove(2, 1));
    }

    private static void removeWithoutRoom() {
        Sentences.name("Promise 3", "Throws `IllegalStateException` if there were 90 deeds");
        full(STATE, "remove", x -> x.remove(0, 0));
        Checks.due("if there were 89", 0, Texts.withDeeds(89).remove(0, 0));
    }

    private static void noteOutOfBounds() {
        Sentences.name("Promise 4", "Throws `IndexOutOfBoundsException` as told, of the site or the line");
        for (int site : Texts.noSites()) {
            mixed(OUT, "note at site " + site, x -> x.note(site, 0, 1));
        }
        mixed(OUT, "note of NONE", x -> x.note(0, NONE, 1));
        for (int line : NO_LINES) {
            mixed(OUT, "note of line " + line, x -> x.note(0, line, 1));
        }
        mixed(OUT, "note of what another site knows", x -> x.note(1, 0, 1));
    }

    private static void noteOutOfRange() {
        Sentences.name("Promise 4", "Throws `IllegalArgumentException` if rows is out of range");
        for (int rows : NO_ROWS) {
            mixed(ARG, "note of rows " + rows, x -> x.note(0, 0, rows));
        }
    }

    private static void noteNotThere() {
        Sentences.name("Promise 4", "Throws `NoSuchElementException` if the line is not there");
        mixed(NOT, "note of what it took out", x -> x.note(0, 1, 1));
        mixed(NOT, "note of what came taken out", x -> x.note(3, 1, 3));
    }

    private static void noteWithoutRoom() {
        Sentences.name("Promise 4", "Throws `IllegalStateException` if there were 90 deeds");
        full(STATE, "note", x -> x.note(0, 0, 1));
        Checks.due("if there were 89", 1, Texts.withDeeds(89).note(0, 0, 3));
    }

    private static void moveOutOfBounds() {
        Sentences.name("Promise 5", "Throws `IndexOutOfBoundsException` as told, of the site, the note or the line");
        for (int site : Texts.noSites()) {
            mixed(OUT, "move at site " + site, x -> x.move(site, 0, 0));
        }
        for (int note : NO_NOTES) {
            mixed(OUT, "move note " + note, x -> x.move(0, note, 0));
        }
        mixed(OUT, "move a note that another site knows", x -> x.move(1, 0, 3));
        mixed(OUT, "move to NONE", x -> x.move(0, 0, NONE));
        for (int line : NO_LINES) {
            mixed(OUT, "move to line " + line, x -> x.move(0, 0, line));
        }
        mixed(OUT, "move to a line that another site knows", x -> x.move(1, 1, 0));
    }

    private static void moveNotThere() {
        Sentences.name("Promise 5", "Throws `NoSuchElementException` if the line is not there");
        mixed(NOT, "move to what it took out", x -> x.move(0, 0, 1));
        mixed(NOT, "move to what came taken out", x -> x.move(2, 0, 1));
    }

    private static void moveWithoutRoom() {
        Sentences.name("Promise 5", "Throws `IllegalStateException` if there were 90 deeds");
        full(STATE, "move", x -> x.move(0, 0, 0));
        Checks.due("if there were 89", "moved", Texts.withDeeds(89).move(0, 0, 0));
    }

    private static void syncOutOfBounds() {
        Sentences.name("Promise 6", "Throws `IndexOutOfBoundsException` as told, of either");
        for (int site : Texts.noSites()) {
            mixed(OUT, "sync from " + site, x -> x.sync(site, 1));
            mixed(OUT, "sync to " + site, x -> x.sync(1, site));
            mixed(OUT, "sync from and to " + site, x -> x.sync(site, site));
        }
        mixed(OUT, "sync below and beyond", x -> x.sync(-1, 4));
    }

    private static void printWithoutPage() {
        Sentences.name("Promise 7", "Throws `IllegalStateException` if there is no such first page");
        Refused.by(STATE, "print without lines", Used::new, x -> x.print());
        Refused.by(STATE, "print lines of another site", () -> {
            Used x = new Used();
            x.insert(3, NONE, 1, true);
            return x;
        }, x -> x.print());
        Refused.by(STATE, "print lines that were taken out", () -> {
            Used x = Texts.of("B");
            x.remove(0, 0);
            return x;
        }, x -> x.print());
        mixed(STATE, "print again", x -> x.print());
        Refused.by(STATE, "print behind two full pages", () -> printed(12, 0), x -> x.print());
        Refused.by(STATE, "print when the second page has lines by now", () -> printed(1, 11), x -> x.print());
        Checks.due("print when there are lines behind it", 1, printed(1, 12).print());
        Checks.due("print when there are lines behind it", 1, printed(12, 1).print());
        Refused.by(STATE, "print when there are fewer pages by now", () -> {
            Used x = printed(13, 0);
            x.remove(0, 0);
            return x;
        }, x -> x.print());
    }

    /** So many lines, a sheet of them printed, and then so many more behind them. */
    private static Used printed(int lines, int more) {
        Used x = Texts.of("B".repeat(lines));
        x.print();
        for (int line = lines; line < lines + more; line++) {
            x.insert(0, line - 1, 1, true);
        }
        return x;
    }

    private static void differsOutOfBounds() {
        Sentences.name("Promise 9", "Throws `IndexOutOfBoundsException` if it was not printed");
        for (int page : new int[] {-1, 0, 1, Texts.MIN, Texts.MAX}) {
            Refused.by(OUT, "differs, page " + page + " of none", () -> Texts.of("BBBBBBB"), x -> x.differs(page));
        }
        for (int page : new int[] {-1, -2, 2, 3, 178, 1 << 30, Texts.MIN, Texts.MAX}) {
            mixed(OUT, "differs, page " + page + " of two", x -> x.differs(page));
        }
        Checks.due("the second page without lines was printed", 0, Texts.mixed().differs(1));
        Refused.by(OUT, "differs, a page that is there, but was not printed", () -> printed(13, 0), x -> x.differs(2));
    }

    private static void linesOutOfBounds() {
        Sentences.name("Promise 11", "Throws `IndexOutOfBoundsException` as told");
        for (int site : Texts.noSites()) {
            mixed(OUT, "lines at " + site, x -> x.lines(site));
        }
    }

    private static void lineAtOutOfBounds() {
        Sentences.name("Promise 12", "Throws `IndexOutOfBoundsException` as told, or if place is below 0");
        for (int site : Texts.noSites()) {
            mixed(OUT, "lineAt, site " + site, x -> x.lineAt(site, 0, 0));
        }
        for (int place : Texts.belowNought()) {
            for (int what = 0; what <= 4; what++) {
                int asked = what;
                mixed(OUT, "lineAt, place " + place, x -> x.lineAt(0, place, asked));
            }
        }
    }

    private static void lineAtOutOfRange() {
        Sentences.name("Promise 12", "Throws `IllegalArgumentException` if what is out of range");
        for (int what : NO_WHATS) {
            mixed(ARG, "lineAt, what " + what, x -> x.lineAt(0, 0, what));
            mixed(ARG, "lineAt, what " + what + ", where there are not so many", x -> x.lineAt(0, 2, what));
            mixed(ARG, "lineAt, what " + what + ", far beyond", x -> x.lineAt(0, Texts.MAX, what));
            Refused.by(ARG, "lineAt, what " + what + ", without lines", Used::new, x -> x.lineAt(0, 0, what));
        }
    }

    private static void lineAnewOutOfBounds() {
        Sentences.name("Promise 13", "Throws `IndexOutOfBoundsException` as told, or if place is below 0");
        for (int site : Texts.noSites()) {
            mixed(OUT, "lineAnew, site " + site, x -> x.lineAnew(site, 0));
        }
        for (int place : Texts.belowNought()) {
            mixed(OUT, "lineAnew, place " + place, x -> x.lineAnew(0, place));
            Refused.by(OUT, "lineAnew, place " + place + ", without lines", Used::new, x -> x.lineAnew(0, place));
        }
    }

    private static void noteAtOutOfBounds() {
        Sentences.name("Promise 14", "Throws `IndexOutOfBoundsException` as told, of the site or the note");
        for (int site : Texts.noSites()) {
            mixed(OUT, "noteAt, site " + site, x -> x.noteAt(site, 0));
        }
        for (int note : NO_NOTES) {
            mixed(OUT, "noteAt, note " + note, x -> x.noteAt(0, note));
        }
        mixed(OUT, "noteAt, a note that another site knows", x -> x.noteAt(1, 0));
        Refused.by(OUT, "noteAt without notes", () -> Texts.of("B"), x -> x.noteAt(0, 0));
    }

    private static void pagesOutOfBounds() {
        Sentences.name("Promise 15", "Throws `IndexOutOfBoundsException` as told");
        for (int site : Texts.noSites()) {
            mixed(OUT, "pages at " + site, x -> x.pages(site));
        }
    }

    private static void aheadAnewOutOfBounds() {
        Sentences.name("Promise 16", "Throws `IndexOutOfBoundsException` as told, of the site, or if page is below 0");
        for (int site : Texts.noSites()) {
            mixed(OUT, "aheadAnew, site " + site, x -> x.aheadAnew(site, 0));
        }
        for (int page : Texts.belowNought()) {
            mixed(OUT, "aheadAnew, page " + page, x -> x.aheadAnew(0, page));
            Refused.by(OUT, "aheadAnew, page " + page + ", without lines", Used::new, x -> x.aheadAnew(0, page));
        }
    }

    private static void knownOutOfBounds() {
        Sentences.name("Promise 17", "Throws `IndexOutOfBoundsException` as told");
        for (int site : Texts.noSites()) {
            mixed(OUT, "known at " + site, x -> x.known(site));
        }
    }

    private static void outOfBoundsSays() {
        Sentences.name("Exceptions", "IndexOutOfBoundsException: there is no such site, line, note, page or sheet, or the site does not "
                + "know it.");
        mixed(OUT, "no such site", x -> x.known(4));
        mixed(OUT, "no such line", x -> x.remove(0, 4));
        mixed(OUT, "no such note", x -> x.noteAt(0, 2));
        mixed(OUT, "no such page", x -> x.differs(2));
        mixed(OUT, "a line that the site does not know", x -> x.remove(0, 3));
        mixed(OUT, "a note that the site does not know", x -> x.noteAt(0, 1));
        Used x = Texts.mixed();
        x.sync(1, 0);
        Checks.due("a note that it knows by now", 3, x.noteAt(0, 1));
        Checks.due("a line that it knows by now", 2, x.remove(0, 3));
    }

    private static void illegalArgumentSays() {
        Sentences.name("Exceptions", "IllegalArgumentException: another argument is out of its range.");
        mixed(ARG, "value", y -> y.insert(0, 0, 100, true));
        mixed(ARG, "rows", y -> y.note(0, 0, 4));
        mixed(ARG, "what", y -> y.lineAt(0, 0, 5));
    }

    private static void othersSay() {
        Sentences.name("Exceptions", "NoSuchElementException, IllegalStateException: as the method tells.");
        mixed(NOT, "a line that is not there", y -> y.remove(0, 1));
        mixed(STATE, "no page to print", y -> y.print());
        full(STATE, "no room for a deed", y -> y.remove(0, 0));
    }

    /** Each two that can apply to a call together, and all together; full() has no room for a deed. */
    private static void theFirstOneNamed() {
        Sentences.name("Exceptions", "If several apply, the one that is named first in the throws clause is thrown;");
        firstOfInsert();
        firstOfRemove();
        firstOfNote();
        firstOfMove();
        firstOfLineAt();
    }

    private static void firstOfInsert() {
        for (int site : new int[] {-1, 4}) {
            mixed(OUT, "insert: site, value", x -> x.insert(site, 0, 100, true));
            full(OUT, "insert: site, full", x -> x.insert(site, 0, 1, true));
            full(OUT, "insert: site, value, full", x -> x.insert(site, 0, -1, true));
        }
        for (int behind : new int[] {-2, 0, 1, 4}) {
            mixed(OUT, "insert: behind, value", x -> x.insert(1, behind, 100, true));
        }
        for (int behind : new int[] {-2, 2, 3}) {
            full(OUT, "insert: behind, full", x -> x.insert(0, behind, 1, true));
            full(OUT, "insert: behind, value, full", x -> x.insert(0, behind, 100, true));
        }
        full(ARG, "insert: value, full", x -> x.insert(0, 1, 100, true));
        full(ARG, "insert first: value, full", x -> x.insert(3, NONE, -1, true));
    }

    private static void firstOfRemove() {
        for (int site : new int[] {-1, 4}) {
            full(OUT, "remove: site, full", x -> x.remove(site, 0));
            full(OUT, "remove: site, there, full", x -> x.remove(site, 1));
        }
        for (int line : new int[] {-1, 2, 3}) {
            full(OUT, "remove: line, full", x -> x.remove(0, line));
        }
        mixed(OUT, "remove: line, which another site took out", x -> x.remove(1, 1));
        full(OUT, "remove: line, which another site took out, full", x -> x.remove(1, 1));
        full(NOT, "remove: there, full", x -> x.remove(0, 1));
    }

    private static void firstOfNote() {
        for (int site : new int[] {-1, 4}) {
            mixed(OUT, "note: site, rows", x -> x.note(site, 0, 0));
            mixed(OUT, "note: site, there", x -> x.note(site, 1, 1));
            full(OUT, "note: site, full", x -> x.note(site, 0, 1));
            full(OUT, "note: site, rows, there, full", x -> x.note(site, 1, 4));
        }
        for (int line : new int[] {-1, 2, 3}) {
            full(OUT, "note: line, full", x -> x.note(0, line, 1));
            full(OUT, "note: line, rows, full", x -> x.note(0, line, 0));
        }
        mixed(OUT, "note: line, rows", x -> x.note(0, 3, 0));
        mixed(OUT, "note: line, which another site took out", x -> x.note(1, 1, 1));
        mixed(OUT, "note: line, which another site took out, rows", x -> x.note(1, 1, 4));
        mixed(ARG, "note: rows, there", x -> x.note(0, 1, 4));
        full(ARG, "note: rows, full", x -> x.note(0, 0, 0));
        full(ARG, "note: rows, there, full", x -> x.note(0, 1, 4));
        full(NOT, "note: there, full", x -> x.note(0, 1, 1));
    }

    private static void firstOfMove() {
        for (int site : new int[] {-1, 4}) {
            mixed(OUT, "move: site, there", x -> x.move(site, 0, 1));
            full(OUT, "move: site, full", x -> x.move(site, 0, 0));
            full(OUT, "move: site, there, full", x -> x.move(site, 0, 1));
        }
        for (int beyond : new int[] {-1, 2, 3}) {
            mixed(OUT, "move: note, there", x -> x.move(0, beyond, 1));
            full(OUT, "move: note, full", x -> x.move(0, beyond, 0));
            full(OUT, "move: note, there, full", x -> x.move(0, beyond, 1));
            full(OUT, "move: line, full", x -> x.move(0, 0, beyond));
            full(OUT, "move: note, line, full", x -> x.move(0, beyond, beyond));
        }
        mixed(OUT, "move: line, which another site took out", x -> x.move(1, 1, 1));
        full(NOT, "move: there, full", x -> x.move(0, 0, 1));
    }

    private static void firstOfLineAt() {
        mixed(OUT, "lineAt: site, what", x -> x.lineAt(-1, 0, 5));
        mixed(OUT, "lineAt: site, what", x -> x.lineAt(4, 0, -1));
        mixed(OUT, "lineAt: place, what", x -> x.lineAt(0, -1, 5));
        mixed(OUT, "lineAt: place, what", x -> x.lineAt(0, Texts.MIN, -1));
        mixed(OUT, "lineAt: site, place, what", x -> x.lineAt(4, -1, -1));
    }

    /** Refused.by looks at all that shows; here what shows only in what comes later, call by call. */
    private static void nothingIsChanged() {
        Sentences.name("Exceptions", "a call that throws changes nothing.");
        Used x = Texts.of("BB");
        x.note(0, 0, 1);
        x.remove(0, 1);
        Refused.Act[] acts = {
            y -> y.insert(0, NONE, 100, true), y -> y.insert(0, 1, -1, true), y -> y.insert(0, -2, 1, true),
            y -> y.insert(0, 2, 1, true), y -> y.insert(4, NONE, 1, true), y -> y.remove(0, 1), y -> y.remove(0, 2),
            y -> y.note(0, 0, 4), y -> y.note(0, 1, 1), y -> y.note(0, 2, 1), y -> y.move(0, 0, 1),
            y -> y.move(0, 1, 0), y -> y.move(0, 0, 2), y -> y.sync(0, 4), y -> y.sync(-1, 0),
        };
        for (Refused.Act act : acts) {
            Checks.due("it throws", true, Checks.outcome(() -> act.on(x)).startsWith("throws."));
        }
        Checks.due("no deed", 4, x.known(0));
        Checks.due("no number of a line", 2, x.insert(0, NONE, 5, true));
        Checks.due("no number of a note", 1, x.note(0, 0, 1));
        for (int turn = 0; turn < 6; turn++) {
            x.insert(1, NONE, turn, true);
        }
        x.sync(1, 0);
        Checks.due("no clock: line 2 has 5, lines 3 to 8 have 1 to 6", "8 7 2 6 5 4 3 0", Texts.order(x, 0));
        for (int deed = x.known(0); deed < 90; deed++) {
            Checks.due("no room for deeds", "moved", x.move(0, 0, 0));
        }
        Checks.fails("behind the 90th", Refused.STATE, () -> x.move(0, 0, 0));
    }

    private static void none() {
        Sentences.name("Exceptions", "The constants: `NONE = -1`: There is none.");
        Checks.due("NONE", -1, Mergeparlour.NONE);
        Used x = Texts.of("B");
        x.note(0, 0, 1);
        Checks.due("behind none", 1, x.insert(0, -1, 1, true));
        x.remove(0, 0);
        x.remove(0, 1);
        Checks.due("no line", -1, x.lineAt(0, 0, 0));
        Checks.due("no line", -1, x.lineAnew(0, 0));
        Checks.due("nowhere", -1, x.noteAt(0, 0));
    }
}
