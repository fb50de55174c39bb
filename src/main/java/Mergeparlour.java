import java.util.NoSuchElementException;

/** A text that four sites edit apart and bring together, its notes, pages, printed sheets and slips. */
public final class Mergeparlour {
    public static final int NONE = -1;

    private static final int SITES = 4;
    private static final int MOST_DEEDS = 90;
    private static final int MOST_VALUE = 99;
    private static final int MOST_NOTE_ROWS = 3;
    private static final int LAST_WHAT = 4;
    private static final int PAGE_ROWS = 6;
    private static final int SHEET_PAGES = 2;
    private static final int SHEET_COST = 10;
    private static final int SLIP_COST = 1;

    private static final int LINE_PUT_IN = 0;
    private static final int LINE_TAKEN_OUT = 1;
    private static final int NOTE_MADE = 2;
    private static final int NOTE_MOVED = 3;

    private final Ledger ledger;
    private final Site[] sites;
    private final Press press;

    public Mergeparlour() {
        ledger = new Ledger();
        sites = new Site[SITES];
        for (int site = 0; site < SITES; site++) {
            sites[site] = new Site(site, ledger);
        }
        press = new Press(sites[0].layout);
    }

    // ---- deeds

    public int insert(int site, int behind, int value, boolean begins)
            throws IndexOutOfBoundsException, IllegalArgumentException, IllegalStateException {
        Site here = siteOf(site);
        if (behind != NONE) {
            checkLineIsKnown(here, behind);
        }
        if (value < 0 || value > MOST_VALUE) {
            throw new IllegalArgumentException("no such value");
        }
        checkRoomForDeed();
        int stamp = here.nextStamp();
        int line = ledger.addLine(stamp, behind, value, begins);
        here.take(ledger.addDeed(LINE_PUT_IN, stamp, line, behind));
        return line;
    }

    public int remove(int site, int line)
            throws IndexOutOfBoundsException, NoSuchElementException, IllegalStateException {
        Site here = siteOf(site);
        checkLineIsKnown(here, line);
        checkLineIsThere(here, line);
        checkRoomForDeed();
        here.take(ledger.addDeed(LINE_TAKEN_OUT, here.nextStamp(), line, NONE));
        return here.layout.lineCount();
    }

    public int note(int site, int line, int rows)
            throws IndexOutOfBoundsException, IllegalArgumentException, NoSuchElementException,
            IllegalStateException {
        Site here = siteOf(site);
        checkLineIsKnown(here, line);
        if (rows < 1 || rows > MOST_NOTE_ROWS) {
            throw new IllegalArgumentException("no such number of rows");
        }
        checkLineIsThere(here, line);
        checkRoomForDeed();
        int note = ledger.addNote(rows);
        here.take(ledger.addDeed(NOTE_MADE, here.nextStamp(), note, line));
        return note;
    }

    public void move(int site, int note, int line)
            throws IndexOutOfBoundsException, NoSuchElementException, IllegalStateException {
        Site here = siteOf(site);
        checkNoteIsKnown(here, note);
        checkLineIsKnown(here, line);
        checkLineIsThere(here, line);
        checkRoomForDeed();
        here.take(ledger.addDeed(NOTE_MOVED, here.nextStamp(), note, line));
    }

    public int sync(int from, int to) throws IndexOutOfBoundsException {
        Site giver = siteOf(from);
        Site taker = siteOf(to);
        return taker.takeAllOf(giver);
    }

    // ---- press

    public int print() throws IllegalStateException {
        if (!press.hasPageToPrint()) {
            throw new IllegalStateException("no page to print");
        }
        return press.printSheet();
    }

    public int sheets() {
        return press.sheetCount();
    }

    public int differs(int page) throws IndexOutOfBoundsException {
        if (page < 0 || page >= press.pageCount()) {
            throw new IndexOutOfBoundsException("not printed");
        }
        return press.difference(page);
    }

    public int cost() {
        return press.bill();
    }

    // ---- questions

    public int lines(int site) throws IndexOutOfBoundsException {
        return siteOf(site).layout.lineCount();
    }

    public int lineAt(int site, int place, int what)
            throws IndexOutOfBoundsException, IllegalArgumentException {
        Layout layout = siteOf(site).layout;
        checkFromNought(place);
        if (what < 0 || what > LAST_WHAT) {
            throw new IllegalArgumentException("no such question");
        }
        if (place >= layout.lineCount()) {
            return NONE;
        }
        switch (what) {
            case 0:
                return layout.line(place);
            case 1:
                return ledger.valueOf(layout.line(place));
            case 2:
                return layout.rows(place);
            case 3:
                return layout.beginsParagraph(place) ? 1 : 0;
            default:
                return layout.pageOf(place);
        }
    }

    public int lineAnew(int site, int place) throws IndexOutOfBoundsException {
        Site here = siteOf(site);
        checkFromNought(place);
        return here.text.findAnew(place);
    }

    public int noteAt(int site, int note) throws IndexOutOfBoundsException {
        Site here = siteOf(site);
        checkNoteIsKnown(here, note);
        return here.text.lineOfNote(note);
    }

    public int pages(int site) throws IndexOutOfBoundsException {
        return siteOf(site).layout.pageCount();
    }

    public int aheadAnew(int site, int page) throws IndexOutOfBoundsException {
        Site here = siteOf(site);
        checkFromNought(page);
        return here.layout.countAheadAnew(page);
    }

    public int known(int site) throws IndexOutOfBoundsException {
        return siteOf(site).deedCount();
    }

    // ---- what is tested ahead of a deed or an answer

    private Site siteOf(int site) {
        if (site < 0 || site >= sites.length) {
            throw new IndexOutOfBoundsException("no such site");
        }
        return sites[site];
    }

    private void checkLineIsKnown(Site here, int line) {
        if (!here.text.knowsLine(line)) {
            throw new IndexOutOfBoundsException("no such line");
        }
    }

    private void checkLineIsThere(Site here, int line) {
        if (!here.text.hasThere(line)) {
            throw new NoSuchElementException("line is not there");
        }
    }

    private void checkNoteIsKnown(Site here, int note) {
        if (!here.text.knowsNote(note)) {
            throw new IndexOutOfBoundsException("no such note");
        }
    }

    private void checkRoomForDeed() {
        if (ledger.deedCount() >= MOST_DEEDS) {
            throw new IllegalStateException("no more deeds");
        }
    }

    private void checkFromNought(int number) {
        if (number < 0) {
            throw new IndexOutOfBoundsException("below 0");
        }
    }

    /**
     * Numbers by their places, all NONE at first. Arrays of numbers are touched here alone: outside of
     * the cells it answers NONE and keeps nothing, so that no index can ever throw. What is added one
     * behind the other counts as its size; what is put at a place of its own does not.
     */
    private static final class Numbers {
        private final int[] cells;
        private int size;

        Numbers(int most) {
            cells = new int[Math.max(most, 0)];
            for (int place = 0; place < cells.length; place++) {
                cells[place] = NONE;
            }
        }

        int size() {
            return size;
        }

        int at(int place) {
            return place >= 0 && place < cells.length ? cells[place] : NONE;
        }

        void put(int place, int number) {
            if (place >= 0 && place < cells.length) {
                cells[place] = number;
            }
        }

        void add(int number) {
            putBetween(size, number);
        }

        void putBetween(int place, int number) {
            if (place < 0 || place > size || size >= cells.length) {
                return;
            }
            for (int later = size; later > place; later--) {
                put(later, at(later - 1));
            }
            put(place, number);
            size++;
        }

        void clear() {
            size = 0;
        }

        int placeOf(int number) {
            for (int place = 0; place < size; place++) {
                if (at(place) == number) {
                    return place;
                }
            }
            return NONE;
        }
    }

    /** All deeds, lines and notes that were made anywhere, by their numbers; none of it changes later. */
    private static final class Ledger {
        private final Numbers kinds = new Numbers(MOST_DEEDS);
        private final Numbers stamps = new Numbers(MOST_DEEDS);
        private final Numbers subjects = new Numbers(MOST_DEEDS);
        private final Numbers targets = new Numbers(MOST_DEEDS);
        private final Numbers lineStamps = new Numbers(MOST_DEEDS);
        private final Numbers lineBehinds = new Numbers(MOST_DEEDS);
        private final Numbers lineValues = new Numbers(MOST_DEEDS);
        private final Numbers lineBegins = new Numbers(MOST_DEEDS);
        private final Numbers noteRows = new Numbers(MOST_DEEDS);

        int addDeed(int kind, int stamp, int subject, int target) {
            kinds.add(kind);
            stamps.add(stamp);
            subjects.add(subject);
            targets.add(target);
            return kinds.size() - 1;
        }

        int addLine(int stamp, int behind, int value, boolean begins) {
            lineStamps.add(stamp);
            lineBehinds.add(behind);
            lineValues.add(value);
            lineBegins.add(begins ? 1 : 0);
            return lineStamps.size() - 1;
        }

        int addNote(int rows) {
            noteRows.add(rows);
            return noteRows.size() - 1;
        }

        int deedCount() {
            return kinds.size();
        }

        int lineCount() {
            return lineStamps.size();
        }

        int noteCount() {
            return noteRows.size();
        }

        int kindOf(int deed) {
            return kinds.at(deed);
        }

        int stampOf(int deed) {
            return stamps.at(deed);
        }

        /** The line or the note that a deed is about. */
        int subjectOf(int deed) {
            return subjects.at(deed);
        }

        /** The line behind which a line is put, or at which a note is. */
        int targetOf(int deed) {
            return targets.at(deed);
        }

        int stampOfLine(int line) {
            return lineStamps.at(line);
        }

        int behindOf(int line) {
            return lineBehinds.at(line);
        }

        int valueOf(int line) {
            return lineValues.at(line);
        }

        boolean beginsParagraph(int line) {
            return lineBegins.at(line) == 1;
        }

        int rowsOfNote(int note) {
            return noteRows.at(note);
        }
    }

    /** One site: its clock, the deeds that it knows in the order in which it came to know them. */
    private static final class Site {
        final Text text;
        final Layout layout;
        private final int number;
        private final Numbers deeds = new Numbers(MOST_DEEDS);
        private final Numbers placesOfDeeds = new Numbers(MOST_DEEDS);
        private int clock;

        Site(int number, Ledger ledger) {
            this.number = number;
            text = new Text(ledger);
            layout = new Layout(ledger, text);
        }

        /** Clock and site in one number, so that the greater stamp is the greater number. */
        int nextStamp() {
            clock++;
            return clock * SITES + number;
        }

        void take(int deed) {
            learn(deed);
            layout.layAnew();
        }

        int takeAllOf(Site giver) {
            int before = deeds.size();
            for (int turn = 0; turn < giver.deeds.size(); turn++) {
                int deed = giver.deeds.at(turn);
                if (placesOfDeeds.at(deed) == NONE) {
                    learn(deed);
                }
            }
            clock = Math.max(clock, giver.clock);
            layout.layAnew();
            return deeds.size() - before;
        }

        int deedCount() {
            return deeds.size();
        }

        private void learn(int deed) {
            placesOfDeeds.put(deed, deeds.size());
            deeds.add(deed);
            text.change(deed);
        }
    }

    /** The lines and notes of one site, as far as it knows: those that are taken out keep their place. */
    private static final class Text {
        private static final int GONE = 0;
        private static final int THERE = 1;

        private final Ledger ledger;
        private final Numbers order = new Numbers(MOST_DEEDS);
        private final Numbers orderAnew = new Numbers(MOST_DEEDS);
        private final Numbers byStamps = new Numbers(MOST_DEEDS);
        private final Numbers standings = new Numbers(MOST_DEEDS);
        private final Numbers noteLines = new Numbers(MOST_DEEDS);
        private final Numbers noteStamps = new Numbers(MOST_DEEDS);

        Text(Ledger ledger) {
            this.ledger = ledger;
        }

        void change(int deed) {
            int subject = ledger.subjectOf(deed);
            switch (ledger.kindOf(deed)) {
                case LINE_PUT_IN:
                    putIn(subject);
                    break;
                case LINE_TAKEN_OUT:
                    standings.put(subject, GONE);
                    break;
                case NOTE_MADE:
                case NOTE_MOVED:
                    bringNote(subject, ledger.targetOf(deed), ledger.stampOf(deed));
                    break;
                default:
                    break;
            }
        }

        boolean knowsLine(int line) {
            return standings.at(line) != NONE;
        }

        boolean hasThere(int line) {
            return standings.at(line) == THERE;
        }

        boolean knowsNote(int note) {
            return noteLines.at(note) != NONE;
        }

        /** Counts those that are taken out, too. */
        int lineCount() {
            return order.size();
        }

        int line(int place) {
            return order.at(place);
        }

        /** Goes on behind the note's own line only as long as it met no line that is there. */
        int lineOfNote(int note) {
            int own = order.placeOf(noteLines.at(note));
            int nearest = NONE;
            for (int place = 0; place < order.size() && (place <= own || nearest == NONE); place++) {
                if (hasThere(order.at(place))) {
                    nearest = order.at(place);
                }
            }
            return nearest;
        }

        /** The line at a place of those that are there, by an order that owes nothing to the kept one. */
        int findAnew(int wanted) {
            putAllAnew();
            int place = 0;
            for (int turn = 0; turn < orderAnew.size(); turn++) {
                int line = orderAnew.at(turn);
                if (hasThere(line)) {
                    if (place == wanted) {
                        return line;
                    }
                    place++;
                }
            }
            return NONE;
        }

        /** What has a greater stamp there was put behind the same line, or behind such a one, and stays ahead. */
        private void putIn(int line) {
            int stamp = ledger.stampOfLine(line);
            int place = order.placeOf(ledger.behindOf(line)) + 1;
            while (place < order.size() && ledger.stampOfLine(order.at(place)) > stamp) {
                place++;
            }
            order.putBetween(place, line);
            standings.put(line, THERE);
        }

        private void bringNote(int note, int line, int stamp) {
            if (stamp > noteStamps.at(note)) {
                noteLines.put(note, line);
                noteStamps.put(note, stamp);
            }
        }

        /** By their stamps each goes right behind its own, so that a greater one pushes the lesser on. */
        private void putAllAnew() {
            sortByStamps();
            orderAnew.clear();
            for (int turn = 0; turn < byStamps.size(); turn++) {
                int line = byStamps.at(turn);
                orderAnew.putBetween(orderAnew.placeOf(ledger.behindOf(line)) + 1, line);
            }
        }

        private void sortByStamps() {
            byStamps.clear();
            for (int line = 0; line < ledger.lineCount(); line++) {
                if (knowsLine(line)) {
                    byStamps.putBetween(placeByStamp(ledger.stampOfLine(line)), line);
                }
            }
        }

        private int placeByStamp(int stamp) {
            int place = byStamps.size();
            while (place > 0 && ledger.stampOfLine(byStamps.at(place - 1)) > stamp) {
                place--;
            }
            return place;
        }
    }

    /** The lines that are there at one site, with their rows, cut into pages. */
    private static final class Layout {
        private final Ledger ledger;
        private final Text text;
        private final Numbers there = new Numbers(MOST_DEEDS);
        private final Numbers begins = new Numbers(MOST_DEEDS);
        private final Numbers rowsOfLines = new Numbers(MOST_DEEDS);
        private final Numbers pageStarts = new Numbers(MOST_DEEDS);

        Layout(Ledger ledger, Text text) {
            this.ledger = ledger;
            this.text = text;
        }

        void layAnew() {
            gatherLines();
            addNotes();
            cutPages();
        }

        int lineCount() {
            return there.size();
        }

        int line(int place) {
            return there.at(place);
        }

        int rows(int place) {
            return rowsOfLines.at(there.at(place));
        }

        boolean beginsParagraph(int place) {
            return begins.at(place) == 1;
        }

        int pageCount() {
            return pageStarts.size();
        }

        int pageOf(int place) {
            int page = NONE;
            for (int turn = 0; turn < pageStarts.size() && pageStarts.at(turn) <= place; turn++) {
                page = turn;
            }
            return page;
        }

        /** A page that there is not starts behind all lines, and so has none. */
        int startOf(int page) {
            return page >= 0 && page < pageStarts.size() ? pageStarts.at(page) : there.size();
        }

        int countAheadAnew(int page) {
            int ahead = 0;
            for (int turn = 0; turn < page && turn < there.size(); turn++) {
                ahead = endByTrying(ahead);
            }
            return ahead;
        }

        private void gatherLines() {
            there.clear();
            begins.clear();
            for (int place = 0; place < text.lineCount(); place++) {
                int line = text.line(place);
                if (text.hasThere(line)) {
                    boolean beginning = there.size() == 0 || ledger.beginsParagraph(line);
                    there.add(line);
                    begins.add(beginning ? 1 : 0);
                    rowsOfLines.put(line, 1);
                }
            }
        }

        /** A note that is nowhere has NONE for its line, and so its rows are kept nowhere. */
        private void addNotes() {
            for (int note = 0; note < ledger.noteCount(); note++) {
                if (text.knowsNote(note)) {
                    int line = text.lineOfNote(note);
                    int rows = rowsOfLines.at(line) + ledger.rowsOfNote(note);
                    rowsOfLines.put(line, Math.min(rows, PAGE_ROWS));
                }
            }
        }

        private void cutPages() {
            pageStarts.clear();
            int first = 0;
            for (int turn = 0; turn < there.size() && first < there.size(); turn++) {
                pageStarts.add(first);
                first = endOfPage(first);
            }
        }

        /** Goes over the page once and keeps the latest cut that is not bad. */
        private int endOfPage(int first) {
            int room = PAGE_ROWS;
            int end = first;
            int lastGood = NONE;
            while (end < there.size() && rows(end) <= room) {
                room -= rows(end);
                end++;
                if (!isBadCut(end)) {
                    lastGood = end;
                }
            }
            return lastGood == NONE ? end : lastGood;
        }

        private int endByTrying(int first) {
            int full = endWithRoom(first);
            for (int cut = full; cut > first; cut--) {
                if (!isBadCut(cut)) {
                    return cut;
                }
            }
            return full;
        }

        private int endWithRoom(int first) {
            int taken = 0;
            for (int place = first; place < there.size(); place++) {
                taken += rows(place);
                if (taken > PAGE_ROWS) {
                    return place;
                }
            }
            return there.size();
        }

        /** A cut is named by the place of the line behind it; behind the last line there is none. */
        private boolean isBadCut(int cut) {
            if (cut >= there.size() || begins.at(cut) == 1) {
                return false;
            }
            boolean lonelyAhead = begins.at(cut - 1) == 1;
            boolean lonelyBehind = cut + 1 == there.size() || begins.at(cut + 1) == 1;
            return lonelyAhead || lonelyBehind;
        }
    }

    /** The printed pages, each with as many lines as a page can have rows. */
    private static final class Press {
        private final Layout now;
        private final Numbers sizes = new Numbers(MOST_DEEDS);
        private final Numbers printedLines = new Numbers(MOST_DEEDS * PAGE_ROWS);
        private final Numbers printedRows = new Numbers(MOST_DEEDS * PAGE_ROWS);

        Press(Layout now) {
            this.now = now;
        }

        boolean hasPageToPrint() {
            return sizes.size() < now.pageCount();
        }

        int pageCount() {
            return sizes.size();
        }

        int sheetCount() {
            return sizes.size() / SHEET_PAGES;
        }

        int printSheet() {
            int printed = 0;
            for (int turn = 0; turn < SHEET_PAGES; turn++) {
                printed += printPage();
            }
            return printed;
        }

        int difference(int page) {
            int start = now.startOf(page);
            int end = now.startOf(page + 1);
            int same = 0;
            for (int place = start; place < end; place++) {
                if (isPrinted(page, now.line(place), now.rows(place))) {
                    same++;
                }
            }
            return sizes.at(page) - same + end - start - same;
        }

        int bill() {
            int sum = 0;
            for (int first = 0; first < pageCount(); first += SHEET_PAGES) {
                sum += Math.min(SHEET_COST, slips(first));
            }
            return sum;
        }

        private int printPage() {
            int page = sizes.size();
            int start = now.startOf(page);
            int size = now.startOf(page + 1) - start;
            for (int turn = 0; turn < size; turn++) {
                printedLines.put(page * PAGE_ROWS + turn, now.line(start + turn));
                printedRows.put(page * PAGE_ROWS + turn, now.rows(start + turn));
            }
            sizes.add(size);
            return size;
        }

        private boolean isPrinted(int page, int line, int rows) {
            for (int turn = 0; turn < sizes.at(page); turn++) {
                int cell = page * PAGE_ROWS + turn;
                if (printedLines.at(cell) == line && printedRows.at(cell) == rows) {
                    return true;
                }
            }
            return false;
        }

        private int slips(int first) {
            int sum = 0;
            for (int page = first; page < first + SHEET_PAGES; page++) {
                int difference = difference(page);
                sum += difference == 0 ? 0 : SLIP_COST + difference;
            }
            return sum;
        }
    }
}
