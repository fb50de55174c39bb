import java.util.NoSuchElementException;

/** Each promise by its number: ordinary calls, the edges that the document names, and wrong calls. */
public final class PromiseTest {
    private static final int NONE = Mergeparlour.NONE;
    private static final Class<IndexOutOfBoundsException> OUT = IndexOutOfBoundsException.class;
    private static final Class<IllegalArgumentException> ARG = IllegalArgumentException.class;
    private static final Class<NoSuchElementException> NOT = NoSuchElementException.class;
    private static final Class<IllegalStateException> STATE = IllegalStateException.class;
    private static final int MIN = Integer.MIN_VALUE;
    private static final int MAX = Integer.MAX_VALUE;
    private static final int[] NO_SITES = {-1, 4, 5, MIN, MAX};

    public static void main(String[] args) {
        newObject();
        insertNumbersAndOrders();
        insertKeepsSiblingsByStamp();
        insertThrows();
        callsThatThrowLeaveTheClock();
        removeCounts();
        removeThrows();
        noteIsNumbered();
        noteThrows();
        moveGoesByStamp();
        moveThrows();
        syncGetsAll();
        syncSetsClock();
        syncThrows();
        printTakesTwoPages();
        printThrows();
        sheetsAreCounted();
        differsCountsLines();
        differsThrows();
        costTakesTheLess();
        linesAreCounted();
        lineAtTells();
        lineAtTellsRows();
        lineAtThrows();
        lineAnewOrders();
        lineAnewThrows();
        noteAtGoesToTheNearest();
        noteAtThrows();
        pagesAreCut();
        pagesStayIfAllCutsAreBad();
        pagesGoByTheLinesThatAreThere();
        pagesThrows();
        aheadAnewCounts();
        aheadAnewThrows();
        knownCounts();
        ninetyDeeds();
        Checks.finish("PromiseTest");
    }

    /** A call that is to throw, and is to change nothing. */
    private static void fails(String what, Mergeparlour x, Class<? extends RuntimeException> want, Checks.Call call) {
        String before = Snapshot.of(x);
        Checks.fails(what, want, call);
        Checks.due(what + " changes nothing", before, Snapshot.of(x));
    }

    private static Object moved(Mergeparlour x, int site, int note, int line) {
        x.move(site, note, line);
        return "moved";
    }

    /** One line a letter, at site 0: B begins a paragraph, n does not. */
    private static Mergeparlour text(String letters) {
        Mergeparlour x = new Mergeparlour();
        for (int line = 0; line < letters.length(); line++) {
            x.insert(0, line - 1, line, letters.charAt(line) == 'B');
        }
        return x;
    }

    private static String order(Mergeparlour x, int site) {
        StringBuilder order = new StringBuilder();
        StringBuilder anew = new StringBuilder();
        for (int place = 0; place < x.lines(site); place++) {
            order.append(x.lineAt(site, place, 0)).append(' ');
            anew.append(x.lineAnew(site, place)).append(' ');
        }
        Checks.due("lineAnew orders as lineAt", order.toString(), anew.toString());
        return order.toString().trim();
    }

    /** How many lines each page has, told by both ways of cutting. */
    private static String cut(Mergeparlour x, int site) {
        StringBuilder cut = new StringBuilder();
        for (int page = 0; page < x.pages(site); page++) {
            int size = 0;
            for (int place = 0; place < x.lines(site); place++) {
                size += x.lineAt(site, place, 4) == page ? 1 : 0;
            }
            Checks.due("aheadAnew cuts as pages", size, x.aheadAnew(site, page + 1) - x.aheadAnew(site, page));
            cut.append(size).append(' ');
        }
        return cut.toString().trim();
    }

    private static void newObject() {
        Mergeparlour x = new Mergeparlour();
        Checks.due("NONE", -1, Mergeparlour.NONE);
        for (int site = 0; site < 4; site++) {
            Checks.due("1 lines", 0, x.lines(site));
            Checks.due("1 lineAt", NONE, x.lineAt(site, 0, 0));
            Checks.due("1 lineAnew", NONE, x.lineAnew(site, 0));
            Checks.due("1 pages", 0, x.pages(site));
            Checks.due("1 aheadAnew", 0, x.aheadAnew(site, 0));
            Checks.due("1 known", 0, x.known(site));
            int asked = site;
            fails("1 noteAt", x, OUT, () -> x.noteAt(asked, 0));
        }
        Checks.due("1 sheets", 0, x.sheets());
        Checks.due("1 cost", 0, x.cost());
        x.insert(0, NONE, 1, true);
        Checks.due("1 objects share nothing", 0, new Mergeparlour().insert(0, NONE, 1, true));
    }

    private static void insertNumbersAndOrders() {
        Mergeparlour x = new Mergeparlour();
        Checks.due("2 first", 0, x.insert(0, NONE, 0, true));
        Checks.due("2 at another site", 1, x.insert(3, NONE, 99, false));
        Checks.due("2 behind", 2, x.insert(0, 0, 5, false));
        Checks.due("2 first again", 3, x.insert(0, NONE, 6, false));
        Checks.due("2 between", 4, x.insert(0, 0, 7, false));
        Checks.due("2 order", "3 0 4 2", order(x, 0));
        Checks.due("2 the other site", "1", order(x, 3));
        Checks.due("2 least value", 0, x.lineAt(0, 1, 1));
        Checks.due("2 greatest value", 99, x.lineAt(3, 0, 1));
        x.remove(0, 0);
        Checks.due("2 behind one that was taken out", 5, x.insert(0, 0, 8, false));
        Checks.due("2 order", "3 5 4 2", order(x, 0));
    }

    private static void insertKeepsSiblingsByStamp() {
        Mergeparlour x = new Mergeparlour();
        x.insert(0, NONE, 0, true);
        x.sync(0, 1);
        x.sync(0, 2);
        x.insert(0, 0, 1, false);
        x.insert(0, 1, 2, false);
        x.insert(2, 0, 3, false);
        x.insert(2, 3, 4, false);
        x.insert(1, 0, 5, false);
        x.insert(1, 0, 6, false);
        x.sync(1, 0);
        x.sync(2, 0);
        x.sync(0, 3);
        x.sync(2, 1);
        x.sync(0, 1);
        x.sync(1, 2);
        for (int site = 0; site < 4; site++) {
            Checks.due("2 same text at site " + site, "0 6 3 4 5 1 2", order(x, site));
        }
    }

    private static void insertThrows() {
        Mergeparlour x = new Mergeparlour();
        x.insert(0, NONE, 1, true);
        for (int site : NO_SITES) {
            fails("2 site " + site, x, OUT, () -> x.insert(site, NONE, 1, true));
            fails("2 site ahead of value", x, OUT, () -> x.insert(site, NONE, 100, true));
        }
        for (int behind : new int[] {-2, 1, 90, MIN, MAX}) {
            fails("2 behind " + behind, x, OUT, () -> x.insert(0, behind, 1, true));
            fails("2 behind ahead of value", x, OUT, () -> x.insert(0, behind, -1, true));
        }
        fails("2 behind one that the site does not know", x, OUT, () -> x.insert(1, 0, 1, true));
        for (int value : new int[] {-1, 100, MIN, MAX}) {
            fails("2 value " + value, x, ARG, () -> x.insert(0, 0, value, true));
        }
    }

    private static void callsThatThrowLeaveTheClock() {
        Mergeparlour x = text("BB");
        x.note(0, 0, 1);
        x.remove(0, 1);
        fails("2 value", x, ARG, () -> x.insert(0, NONE, 100, true));
        fails("2 value", x, ARG, () -> x.insert(0, 1, -1, true));
        fails("2 behind", x, OUT, () -> x.insert(0, -2, 1, true));
        fails("2 behind", x, OUT, () -> x.insert(0, 2, 1, true));
        fails("3 not there", x, NOT, () -> x.remove(0, 1));
        fails("4 rows", x, ARG, () -> x.note(0, 0, 4));
        fails("4 not there", x, NOT, () -> x.note(0, 1, 1));
        fails("5 not there", x, NOT, () -> moved(x, 0, 0, 1));
        fails("6 to", x, OUT, () -> x.sync(0, 4));
        x.insert(0, NONE, 5, true);
        for (int turn = 0; turn < 5; turn++) {
            x.insert(1, NONE, turn, true);
        }
        x.sync(1, 0);
        Checks.due("2 to 5 stamps go on as if nothing was", "7 2 6 5 4 3 0", order(x, 0));
    }

    private static void removeCounts() {
        Mergeparlour x = text("Bnn");
        x.sync(0, 1);
        Checks.due("3 middle", 2, x.remove(0, 1));
        Checks.due("3 order", "0 2", order(x, 0));
        Checks.due("3 first", 1, x.remove(0, 0));
        Checks.due("3 last", 0, x.remove(0, 2));
        Checks.due("3 at the other site they are there", 3, x.lines(1));
        Checks.due("3 taken out twice", 2, x.remove(1, 1));
        x.sync(1, 0);
        Checks.due("3 twice counts once", 0, x.lines(0));
        x.sync(0, 1);
        Checks.due("3 same everywhere", 0, x.lines(1));
    }

    private static void removeThrows() {
        Mergeparlour x = text("Bnn");
        x.insert(1, NONE, 9, true);
        x.remove(0, 1);
        for (int site : NO_SITES) {
            fails("3 site " + site, x, OUT, () -> x.remove(site, 0));
        }
        for (int line : new int[] {-1, 3, 4, 90, MIN, MAX}) {
            fails("3 line " + line, x, OUT, () -> x.remove(0, line));
        }
        fails("3 not there", x, NOT, () -> x.remove(0, 1));
    }

    private static void noteIsNumbered() {
        Mergeparlour x = text("Bn");
        x.insert(2, NONE, 9, true);
        Checks.due("4 first", 0, x.note(0, 0, 1));
        Checks.due("4 at another site", 1, x.note(2, 2, 2));
        Checks.due("4 a second one of a line", 2, x.note(0, 0, 3));
        Checks.due("4 rows", 5, x.lineAt(0, 0, 2));
        Checks.due("4 rows there", 3, x.lineAt(2, 0, 2));
        Checks.due("4 at its line", 2, x.noteAt(2, 1));
    }

    private static void noteThrows() {
        Mergeparlour x = text("Bnn");
        x.insert(1, NONE, 9, true);
        x.remove(0, 1);
        for (int site : NO_SITES) {
            fails("4 site " + site, x, OUT, () -> x.note(site, 0, 1));
        }
        for (int line : new int[] {-1, 3, 4, 90, MIN, MAX}) {
            fails("4 line " + line, x, OUT, () -> x.note(0, line, 1));
            fails("4 line ahead of rows", x, OUT, () -> x.note(0, line, 0));
        }
        for (int rows : new int[] {0, 4, -1, MIN, MAX}) {
            fails("4 rows " + rows, x, ARG, () -> x.note(0, 0, rows));
            fails("4 rows ahead of there", x, ARG, () -> x.note(0, 1, rows));
        }
        fails("4 not there", x, NOT, () -> x.note(0, 1, 1));
    }

    private static void moveGoesByStamp() {
        Mergeparlour x = text("Bnnn");
        x.note(0, 0, 2);
        x.sync(0, 1);
        x.sync(0, 2);
        x.move(0, 0, 1);
        Checks.due("5 moved", 1, x.noteAt(0, 0));
        Checks.due("5 rows leave", 1, x.lineAt(0, 0, 2));
        Checks.due("5 rows come", 3, x.lineAt(0, 1, 2));
        x.move(2, 0, 2);
        x.move(1, 0, 3);
        x.sync(2, 1);
        Checks.due("5 same clock, greater site", 2, x.noteAt(1, 0));
        x.sync(1, 2);
        Checks.due("5 the lesser stamp comes later", 2, x.noteAt(2, 0));
        x.move(0, 0, 0);
        x.sync(2, 0);
        Checks.due("5 greater clock", 0, x.noteAt(0, 0));
        x.move(0, 0, 0);
        Checks.due("5 to where it is", 0, x.noteAt(0, 0));
        Checks.due("5 each is a deed", 10, x.known(0));
    }

    private static void moveThrows() {
        Mergeparlour x = text("Bnn");
        x.note(0, 0, 2);
        x.insert(1, NONE, 9, true);
        x.note(1, 3, 1);
        x.remove(0, 1);
        for (int site : NO_SITES) {
            fails("5 site " + site, x, OUT, () -> moved(x, site, 0, 0));
        }
        for (int note : new int[] {-1, 1, 2, 90, MIN, MAX}) {
            fails("5 note " + note, x, OUT, () -> moved(x, 0, note, 0));
            fails("5 note ahead of there", x, OUT, () -> moved(x, 0, note, 1));
        }
        for (int line : new int[] {-1, 3, 4, 90, MIN, MAX}) {
            fails("5 line " + line, x, OUT, () -> moved(x, 0, 0, line));
        }
        fails("5 not there", x, NOT, () -> moved(x, 0, 0, 1));
    }

    private static void syncGetsAll() {
        Mergeparlour x = text("Bn");
        x.note(0, 1, 1);
        x.remove(0, 0);
        Checks.due("6 all", 4, x.sync(0, 1));
        Checks.due("6 none are left", 0, x.sync(0, 1));
        Checks.due("6 none come back", 0, x.sync(1, 0));
        Checks.due("6 from itself", 0, x.sync(0, 0));
        x.insert(1, NONE, 5, true);
        x.insert(2, NONE, 6, true);
        Checks.due("6 those of others, too", 5, x.sync(1, 2));
        Checks.due("6 what both know is not got", 1, x.sync(2, 1));
        Checks.due("6 what came goes on", 2, x.sync(2, 0));
        Checks.due("6 same text", order(x, 1), order(x, 0));
        Checks.due("6 a site without deeds gives none", 0, x.sync(3, 0));
        Checks.due("6 and gets all", 6, x.sync(0, 3));
        Checks.due("6 same text", order(x, 2), order(x, 3));
        Checks.due("6 notes, too", 1, x.noteAt(3, 0));
    }

    private static void syncSetsClock() {
        Mergeparlour x = text("Bnn");
        x.sync(0, 1);
        x.insert(0, NONE, 7, true);
        x.insert(1, NONE, 8, true);
        x.sync(1, 0);
        Checks.due("6 the clock rises to the greater one", "4 3 0 1 2", order(x, 0));

        Mergeparlour y = text("Bnn");
        y.insert(1, NONE, 7, true);
        y.sync(1, 0);
        y.insert(0, NONE, 8, true);
        y.insert(1, NONE, 9, true);
        y.sync(1, 0);
        Checks.due("6 the clock of the lesser one does not lower it", "4 5 3 0 1 2", order(y, 0));
    }

    private static void syncThrows() {
        Mergeparlour x = text("B");
        for (int site : NO_SITES) {
            fails("6 from " + site, x, OUT, () -> x.sync(site, 1));
            fails("6 to " + site, x, OUT, () -> x.sync(0, site));
            fails("6 both " + site, x, OUT, () -> x.sync(site, site));
        }
    }

    private static void printTakesTwoPages() {
        Mergeparlour x = text("BnnnnnnnBBnnnBBBBBBBBBBB");
        Checks.due("7 cut", "6 5 6 6 1", cut(x, 0));
        Checks.due("7 two pages", 11, x.print());
        Checks.due("7 the next two", 12, x.print());
        Checks.due("7 the last one alone", 1, x.print());
        fails("7 no page is left", x, STATE, () -> x.print());
        for (int page = 0; page < 6; page++) {
            Checks.due("7 as they are then", 0, x.differs(page));
        }
    }

    private static void printThrows() {
        Mergeparlour x = new Mergeparlour();
        fails("7 without lines", x, STATE, () -> x.print());
        x.insert(1, NONE, 1, true);
        fails("7 lines of another site do not count", x, STATE, () -> x.print());
        x.sync(1, 0);
        Checks.due("7 one line", 1, x.print());
        for (int line = 0; line < 11; line++) {
            x.insert(0, line, 1, true);
        }
        Checks.due("7 two pages are printed", "6 6", cut(x, 0));
        fails("7 there is no third one", x, STATE, () -> x.print());
        x.insert(0, 11, 1, true);
        Checks.due("7 now there is", 1, x.print());
    }

    private static void sheetsAreCounted() {
        Mergeparlour x = text("BBBBBBBBBBBBB");
        Checks.due("8 none", 0, x.sheets());
        x.print();
        Checks.due("8 one", 1, x.sheets());
        x.print();
        Checks.due("8 two", 2, x.sheets());
        fails("8 none beyond", x, STATE, () -> x.print());
        for (int line = 0; line < 13; line++) {
            x.remove(0, line);
        }
        Checks.due("8 sheets stay", 2, x.sheets());
    }

    private static void differsCountsLines() {
        Mergeparlour x = text("BBBBBBBB");
        x.print();
        Checks.due("9 same", 0, x.differs(0));
        x.remove(0, 0);
        Checks.due("9 one gone, one came", 2, x.differs(0));
        Checks.due("9 one gone to the page ahead", 1, x.differs(1));
        x.note(0, 7, 2);
        Checks.due("9 other rows count twice", 3, x.differs(1));
        x.sync(0, 1);
        x.insert(1, NONE, 1, true);
        Checks.due("9 another site does not count", 2, x.differs(0));
        x.sync(1, 0);
        Checks.due("9 what came in between", 2, x.differs(0));
        Checks.due("9 back on its page", 2, x.differs(1));

        Mergeparlour y = text("B");
        y.print();
        Checks.due("9 a page without lines", 0, y.differs(1));
        y.note(0, 0, 3);
        Checks.due("9 rows", 2, y.differs(0));
        y.move(0, 0, 0);
        y.insert(0, 0, 1, true);
        y.insert(0, 1, 1, true);
        y.insert(0, 2, 1, true);
        Checks.due("9 lines on a page that had none", 1, y.differs(1));
        Checks.due("9 rows and lines", 4, y.differs(0));
        y.remove(0, 0);
        Checks.due("9 the note came to the next line", "1:4 2:1 3:1", rowsOf(y));
        Checks.due("9 all lines are others", 1 + 3, y.differs(0));
        Checks.due("9 none again", 0, y.differs(1));
    }

    private static String rowsOf(Mergeparlour x) {
        StringBuilder rows = new StringBuilder();
        for (int place = 0; place < x.lines(0); place++) {
            rows.append(x.lineAt(0, place, 0)).append(':').append(x.lineAt(0, place, 2)).append(' ');
        }
        return rows.toString().trim();
    }

    private static void differsThrows() {
        Mergeparlour x = text("B");
        fails("9 nothing was printed", x, OUT, () -> x.differs(0));
        x.print();
        for (int page : new int[] {-1, 2, 180, MIN, MAX}) {
            fails("9 page " + page, x, OUT, () -> x.differs(page));
        }
    }

    private static void costTakesTheLess() {
        Mergeparlour x = text("BBBBBBBBBBBBBB");
        Checks.due("10 nothing printed", 0, x.cost());
        x.print();
        x.print();
        Checks.due("10 nothing differs", 0, x.cost());
        x.note(0, 13, 1);
        Checks.due("10 one slip", 1 + 2, x.cost());
        x.remove(0, 13);
        x.move(0, 0, 12);
        Checks.due("10 by three", 1 + 3, x.cost());
        x.remove(0, 12);
        Checks.due("10 the note went to the page ahead", (1 + 1) + (1 + 3), x.cost());
        x.remove(0, 11);
        x.remove(0, 10);
        Checks.due("10 slips of the second page", (1 + 4) + 3, x.cost());
        x.remove(0, 9);
        x.remove(0, 8);
        Checks.due("10 by six", (1 + 6) + 3, x.cost());
        x.remove(0, 7);
        Checks.due("10 less than a sheet for each, more together", (1 + 7) + 3, x.cost());
        x.insert(0, NONE, 1, true);
        Checks.due("10 never more than a sheet", 10 + 3, x.cost());
    }

    private static void linesAreCounted() {
        Mergeparlour x = text("BBB");
        Checks.due("11 lines", 3, x.lines(0));
        Checks.due("11 at another site", 0, x.lines(1));
        x.remove(0, 1);
        Checks.due("11 those that are there", 2, x.lines(0));
        for (int site : NO_SITES) {
            fails("11 site " + site, x, OUT, () -> x.lines(site));
        }
    }

    private static void lineAtTells() {
        Mergeparlour x = text("nBnnnBB");
        Checks.due("12 number", 5, x.lineAt(0, 5, 0));
        Checks.due("12 value", 4, x.lineAt(0, 4, 1));
        Checks.due("12 rows", 1, x.lineAt(0, 4, 2));
        Checks.due("12 the first line begins", 1, x.lineAt(0, 0, 3));
        Checks.due("12 begins", 1, x.lineAt(0, 1, 3));
        Checks.due("12 does not begin", 0, x.lineAt(0, 2, 3));
        Checks.due("12 page", 0, x.lineAt(0, 5, 4));
        Checks.due("12 next page", 1, x.lineAt(0, 6, 4));
        for (int what = 0; what <= 4; what++) {
            Checks.due("12 not so many", NONE, x.lineAt(0, 7, what));
            Checks.due("12 far beyond", NONE, x.lineAt(0, MAX, what));
            Checks.due("12 another site", NONE, x.lineAt(3, 0, what));
        }
        x.insert(0, NONE, 50, false);
        Checks.due("12 another one is first", 1, x.lineAt(0, 0, 3));
        Checks.due("12 the former first one", 0, x.lineAt(0, 1, 3));
        x.remove(0, 7);
        Checks.due("12 the first that is there", 1, x.lineAt(0, 0, 3));
        x.remove(0, 0);
        x.remove(0, 1);
        Checks.due("12 places are of those that are there", 2, x.lineAt(0, 0, 0));
        Checks.due("12 and it begins", 1, x.lineAt(0, 0, 3));
    }

    private static void lineAtTellsRows() {
        Mergeparlour x = text("BB");
        x.note(0, 0, 3);
        Checks.due("12 four rows", 4, x.lineAt(0, 0, 2));
        x.note(0, 0, 2);
        Checks.due("12 six rows", 6, x.lineAt(0, 0, 2));
        x.note(0, 0, 1);
        Checks.due("12 at most six", 6, x.lineAt(0, 0, 2));
        Checks.due("12 a full page", 1, x.lineAt(0, 1, 4));
        x.move(0, 1, 1);
        Checks.due("12 seven less two", 5, x.lineAt(0, 0, 2));
        Checks.due("12 those that came", 3, x.lineAt(0, 1, 2));
    }

    private static void lineAtThrows() {
        Mergeparlour x = text("B");
        for (int site : NO_SITES) {
            fails("12 site " + site, x, OUT, () -> x.lineAt(site, 0, 0));
            fails("12 site ahead of what", x, OUT, () -> x.lineAt(site, 0, 9));
        }
        for (int place : new int[] {-1, MIN}) {
            fails("12 place " + place, x, OUT, () -> x.lineAt(0, place, 0));
            fails("12 place ahead of what", x, OUT, () -> x.lineAt(0, place, -1));
        }
        for (int what : new int[] {-1, 5, MIN, MAX}) {
            fails("12 what " + what, x, ARG, () -> x.lineAt(0, 0, what));
            fails("12 what, though there are not so many", x, ARG, () -> x.lineAt(0, 7, what));
        }
    }

    private static void lineAnewOrders() {
        Mergeparlour x = text("BBBB");
        x.sync(0, 1);
        x.insert(1, 1, 1, true);
        x.insert(0, 1, 1, true);
        x.insert(0, 5, 1, true);
        x.sync(1, 0);
        Checks.due("13 order", "0 1 4 5 6 2 3", order(x, 0));
        Checks.due("13 third", 4, x.lineAnew(0, 2));
        Checks.due("13 at the other site", 2, x.lineAnew(1, 3));
        x.remove(0, 1);
        Checks.due("13 those that are there", 4, x.lineAnew(0, 1));
        Checks.due("13 last", 3, x.lineAnew(0, 5));
        Checks.due("13 not so many", NONE, x.lineAnew(0, 6));
        Checks.due("13 far beyond", NONE, x.lineAnew(0, MAX));
        Checks.due("13 again the same", 4, x.lineAnew(0, 1));
    }

    private static void lineAnewThrows() {
        Mergeparlour x = text("B");
        for (int site : NO_SITES) {
            fails("13 site " + site, x, OUT, () -> x.lineAnew(site, 0));
        }
        for (int place : new int[] {-1, MIN}) {
            fails("13 place " + place, x, OUT, () -> x.lineAnew(0, place));
        }
    }

    private static void noteAtGoesToTheNearest() {
        Mergeparlour x = text("BBBBB");
        x.note(0, 3, 1);
        Checks.due("14 at its line", 3, x.noteAt(0, 0));
        x.sync(0, 1);
        x.remove(0, 3);
        Checks.due("14 at the one ahead", 2, x.noteAt(0, 0));
        x.remove(0, 2);
        x.remove(0, 1);
        Checks.due("14 at the nearest one ahead", 0, x.noteAt(0, 0));
        x.remove(0, 0);
        Checks.due("14 at the first one that is there", 4, x.noteAt(0, 0));
        Checks.due("14 with its rows", 2, x.lineAt(0, 0, 2));
        int line = x.insert(0, 2, 1, true);
        Checks.due("14 back to one that came ahead", line, x.noteAt(0, 0));
        x.remove(0, 4);
        x.remove(0, line);
        Checks.due("14 nowhere", NONE, x.noteAt(0, 0));
        Checks.due("14 the other site has its own", 3, x.noteAt(1, 0));
        int later = x.insert(0, line, 1, true);
        Checks.due("14 somewhere again", later, x.noteAt(0, 0));
    }

    private static void noteAtThrows() {
        Mergeparlour x = text("B");
        x.note(0, 0, 1);
        for (int site : NO_SITES) {
            fails("14 site " + site, x, OUT, () -> x.noteAt(site, 0));
        }
        for (int note : new int[] {-1, 1, 90, MIN, MAX}) {
            fails("14 note " + note, x, OUT, () -> x.noteAt(0, note));
        }
        fails("14 a note that the site does not know", x, OUT, () -> x.noteAt(1, 0));
    }

    private static void pagesAreCut() {
        Checks.due("15 one line", "1", cut(text("B"), 0));
        Checks.due("15 a full page", "6", cut(text("Bnnnnn"), 0));
        Checks.due("15 each for itself", "6 6 1", cut(text("BBBBBBBBBBBBB"), 0));
        Checks.due("15 the last line is not alone", "5 2", cut(text("Bnnnnnn"), 0));
        Checks.due("15 two are not alone", "6 2", cut(text("Bnnnnnnn"), 0));
        Checks.due("15 a last line that begins may be alone", "6 1", cut(text("BnnnnnB"), 0));
        Checks.due("15 a paragraph's first line is not alone", "5 4", cut(text("BnnnnBnnn"), 0));
        Checks.due("15 nor its last", "5 3", cut(text("BnnnnnnB"), 0));
        Checks.due("15 two lines that belong together", "5 2", cut(text("BnnnnBn"), 0));
        Checks.due("15 three lines, two steps back", "4 4", cut(text("BnnnBnnB"), 0));
        Checks.due("15 three lines to the end", "4 3", cut(text("BnnnBnn"), 0));
        Checks.due("15 between two that begin", "6 2", cut(text("BBBBBBBn"), 0));
        Checks.due("15 at an end", "6 2", cut(text("BnnnnnBn"), 0));
    }

    private static void pagesStayIfAllCutsAreBad() {
        Mergeparlour x = text("Bn");
        x.note(0, 0, 3);
        x.note(0, 1, 2);
        Checks.due("15 the one cut is bad", "1 1", cut(x, 0));

        Mergeparlour y = text("Bnn");
        y.note(0, 0, 2);
        y.note(0, 1, 2);
        Checks.due("15 both cuts are bad, so the first one stays", "2 1", cut(y, 0));

        Mergeparlour z = text("BBn");
        z.note(0, 0, 3);
        z.note(0, 2, 2);
        Checks.due("15 a good one is found", "1 2", cut(z, 0));

        Mergeparlour w = text("Bnnnn");
        w.note(0, 0, 3);
        w.note(0, 1, 3);
        Checks.due("15 later pages are cut from where that one ended", "1 2 2", cut(w, 0));
    }

    private static void pagesGoByTheLinesThatAreThere() {
        Mergeparlour x = text("BnnnnBnn");
        Checks.due("15 ahead", "5 3", cut(x, 0));
        x.remove(0, 5);
        Checks.due("15 without the one that begins", "5 2", cut(x, 0));
        Checks.due("15 pages", 2, x.pages(0));
        x.remove(0, 7);
        Checks.due("15 one page", "6", cut(x, 0));
        Checks.due("15 the other site has none", 0, x.pages(1));

        Mergeparlour y = text("nnBnn");
        y.note(0, 0, 3);
        y.note(0, 1, 1);
        y.note(0, 2, 3);
        Checks.due("15 rows 4 2 4 1 1, the first line begins", "2 3", cut(y, 0));
        y.remove(0, 0);
        Checks.due("15 the note of the line that was taken out", "2:4 3:1 4:1", rowsOf(y).substring(4));
        Checks.due("15 with rows 6 4 1 1", "1 3", cut(y, 0));
    }

    private static void pagesThrows() {
        Mergeparlour x = text("B");
        for (int site : NO_SITES) {
            fails("15 site " + site, x, OUT, () -> x.pages(site));
        }
    }

    private static void aheadAnewCounts() {
        Mergeparlour x = text("BnnnnBnnnBBn");
        Checks.due("16 cut", "5 5 2", cut(x, 0));
        Checks.due("16 none", 0, x.aheadAnew(0, 0));
        Checks.due("16 one page", 5, x.aheadAnew(0, 1));
        Checks.due("16 two pages", 10, x.aheadAnew(0, 2));
        Checks.due("16 all pages", 12, x.aheadAnew(0, 3));
        Checks.due("16 not so many", 12, x.aheadAnew(0, 4));
        Checks.due("16 far beyond", 12, x.aheadAnew(0, MAX));
        Checks.due("16 another site", 0, x.aheadAnew(2, 1));
    }

    private static void aheadAnewThrows() {
        Mergeparlour x = text("B");
        for (int site : NO_SITES) {
            fails("16 site " + site, x, OUT, () -> x.aheadAnew(site, 0));
        }
        for (int page : new int[] {-1, MIN}) {
            fails("16 page " + page, x, OUT, () -> x.aheadAnew(0, page));
        }
    }

    private static void knownCounts() {
        Mergeparlour x = text("Bn");
        Checks.due("17 lines", 2, x.known(0));
        x.note(0, 0, 1);
        x.move(0, 0, 1);
        x.remove(0, 0);
        Checks.due("17 all kinds of deeds", 5, x.known(0));
        Checks.due("17 no other site", 0, x.known(1));
        x.insert(1, NONE, 1, true);
        x.sync(0, 1);
        Checks.due("17 own ones and those that came", 6, x.known(1));
        Checks.due("17 printing is none", x.known(0) + x.print(), x.known(0) + x.lines(0));
        for (int site : NO_SITES) {
            fails("17 site " + site, x, OUT, () -> x.known(site));
        }
    }

    private static void ninetyDeeds() {
        Mergeparlour x = new Mergeparlour();
        for (int line = 0; line < 86; line++) {
            x.insert(line % 4, NONE, 1, true);
        }
        x.sync(1, 0);
        x.note(0, 0, 1);
        x.move(0, 0, 1);
        x.remove(0, 0);
        Checks.due("the ninetieth deed", 86, x.insert(3, NONE, 1, true));
        fails("2 no more deeds", x, STATE, () -> x.insert(0, NONE, 1, true));
        fails("2 at no site", x, STATE, () -> x.insert(2, NONE, 1, true));
        fails("2 line ahead of deeds", x, OUT, () -> x.insert(0, 3, 1, true));
        fails("2 value ahead of deeds", x, ARG, () -> x.insert(0, NONE, 100, true));
        fails("3 no more deeds", x, STATE, () -> x.remove(0, 1));
        fails("3 line ahead of deeds", x, OUT, () -> x.remove(0, 2));
        fails("3 there ahead of deeds", x, NOT, () -> x.remove(0, 0));
        fails("4 no more deeds", x, STATE, () -> x.note(0, 1, 1));
        fails("4 line ahead of deeds", x, OUT, () -> x.note(0, 2, 1));
        fails("4 rows ahead of deeds", x, ARG, () -> x.note(0, 1, 4));
        fails("4 there ahead of deeds", x, NOT, () -> x.note(0, 0, 1));
        fails("5 no more deeds", x, STATE, () -> moved(x, 0, 0, 4));
        fails("5 note ahead of deeds", x, OUT, () -> moved(x, 0, 1, 4));
        fails("5 there ahead of deeds", x, NOT, () -> moved(x, 0, 0, 0));
        Checks.due("6 sync goes on", 47, x.sync(0, 2));
        for (int site = 1; site < 4; site++) {
            x.sync(site, 0);
        }
        Checks.due("17 all ninety", 90, x.known(0));
        Checks.due("11 all lines but one", 86, x.lines(0));
        Checks.due("7 print goes on", 12, x.print());
    }
}
