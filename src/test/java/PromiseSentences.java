/** The promises 1 to 17, sentence by sentence: what each call does and answers; RefusalSentences has what it throws. */
final class PromiseSentences {
    private static final int NONE = Mergeparlour.NONE;

    private PromiseSentences() {
    }

    static void check() {
        newObject();
        insertPutsIn();
        insertBehind();
        insertValue();
        insertNumbers();
        removeTakesOut();
        removeCounts();
        noteIsMade();
        noteRows();
        noteNumbers();
        moveMoves();
        syncGets();
        syncCounts();
        printGoesOn();
        printCounts();
        sheetsCount();
        differsCounts();
        differsFromNought();
        costAddsUp();
        linesCount();
        lineAtCountsThose();
        lineAtFromNought();
        lineAtTells();
        lineAtTellsNone();
        lineAnewOrders();
        lineAnewFromNought();
        lineAnewTellsNone();
        noteAtTells();
        noteAtTellsNone();
        pagesCount();
        aheadAnewTries();
        aheadAnewFromNought();
        aheadAnewTellsAll();
        knownCounts();
    }

    private static void newObject() {
        Sentences.name("Promise 1", "Begins without lines, at all sites.");
        Used x = new Used();
        for (int site = 0; site < 4; site++) {
            Checks.due("lines", 0, x.lines(site));
            Checks.due("pages", 0, x.pages(site));
            Checks.due("known", 0, x.known(site));
            for (int what = 0; what <= 4; what++) {
                Checks.due("lineAt", NONE, x.lineAt(site, 0, what));
            }
            Checks.due("lineAnew", NONE, x.lineAnew(site, 0));
            Checks.due("aheadAnew", 0, x.aheadAnew(site, 0));
            Checks.due("aheadAnew", 0, x.aheadAnew(site, 1));
            for (int other = 0; other < 4; other++) {
                Checks.due("sync", 0, x.sync(site, other));
            }
            int asked = site;
            Checks.fails("line 0", Refused.OUT, () -> x.remove(asked, 0));
            Checks.fails("note 0", Refused.OUT, () -> x.noteAt(asked, 0));
        }
        Checks.due("sheets", 0, x.sheets());
        Checks.due("cost", 0, x.cost());
        Checks.fails("page 0", Refused.OUT, () -> x.differs(0));
        Checks.fails("print", Refused.STATE, () -> x.print());
        x.insert(0, NONE, 1, true);
        x.print();
        Used y = new Used();
        Checks.due("another object has nothing of it", "0 0 0", y.lines(0) + " " + y.sheets() + " " + y.known(0));
        Checks.due("and numbers its own lines", 0, y.insert(3, NONE, 1, true));
    }

    private static void insertPutsIn() {
        Sentences.name("Promise 2", "Puts a line in.");
        Used x = new Used();
        x.insert(0, NONE, 3, true);
        Checks.due("one more", 1, x.lines(0));
        Checks.due("at that site alone", 0, x.lines(1));
    }

    private static void insertBehind() {
        Sentences.name("Promise 2", "`behind`: a line that the site knows, there or not; NONE for first");
        Used x = Texts.of("BB");
        x.insert(0, NONE, 5, true);
        x.remove(0, 0);
        x.insert(0, 0, 6, true);
        Checks.due("first, behind one that is there, behind one that is not", "2 3 1", Texts.order(x, 0));
        x.sync(0, 1);
        x.insert(1, 3, 7, true);
        x.insert(1, 0, 8, true);
        Checks.due("behind those that it got", "2 5 3 4 1", Texts.order(x, 1));
    }

    private static void insertValue() {
        Sentences.name("Promise 2", "`value`: 0 to 99");
        Used x = new Used();
        x.insert(0, NONE, 99, true);
        x.insert(0, NONE, 0, true);
        Checks.due("the least and the greatest one", "0 99", Texts.each(x, 0, 1));
        for (int value = 2; value < 90; value++) {
            x.insert(0, NONE, value, true);
            Checks.due("value", value, x.lineAt(0, 0, 1));
        }
    }

    private static void insertNumbers() {
        Sentences.name("Promise 2", "Returns its number.");
        Used x = new Used();
        for (int line = 0; line < 90; line++) {
            Checks.due("from 0 on", line, x.insert(line % 4, NONE, 1, true));
        }
    }

    private static void removeTakesOut() {
        Sentences.name("Promise 3", "Takes a line out.");
        Used x = Texts.of("Bnnn");
        x.sync(0, 1);
        x.remove(0, 2);
        Checks.due("a line between", "0 1 3", Texts.order(x, 0));
        x.remove(0, 3);
        Checks.due("the last one", "0 1", Texts.order(x, 0));
        x.remove(0, 0);
        Checks.due("the first one", "1", Texts.order(x, 0));
        x.remove(0, 1);
        Checks.due("the only one", "", Texts.order(x, 0));
        Checks.due("not at another site", "0 1 2 3", Texts.order(x, 1));
    }

    private static void removeCounts() {
        Sentences.name("Promise 3", "Returns how many are there then, at the site.");
        Used x = Texts.of("Bn");
        x.sync(0, 1);
        x.insert(1, NONE, 1, true);
        Checks.due("one is left", 1, x.remove(0, 1));
        Checks.due("none is left", 0, x.remove(0, 0));
        Checks.due("at the site, by what it knows", 2, x.remove(1, 0));
    }

    private static void noteIsMade() {
        Sentences.name("Promise 4", "Makes a note.");
        Used x = Texts.of("Bnn");
        x.note(0, 1, 1);
        Checks.due("at its line", 1, x.noteAt(0, 0));
        x.note(0, 1, 2);
        Checks.due("a second one of a line", 1, x.noteAt(0, 1));
        Checks.due("rows of both", "1 4 1", Texts.each(x, 0, 2));
    }

    private static void noteRows() {
        Sentences.name("Promise 4", "`rows`: 1 to 3");
        for (int rows = 1; rows <= 3; rows++) {
            Used x = Texts.of("B");
            x.note(0, 0, rows);
            Checks.due("rows", 1 + rows, x.lineAt(0, 0, 2));
        }
    }

    private static void noteNumbers() {
        Sentences.name("Promise 4", "Returns its number.");
        Used x = Texts.of("B");
        x.sync(0, 3);
        for (int note = 0; note < 89; note++) {
            Checks.due("from 0 on", note, x.note(note % 2 * 3, 0, 1));
        }
        x.sync(3, 0);
        Checks.due("the last one is there", 0, x.noteAt(0, 88));
        Checks.fails("and none behind it", Refused.OUT, () -> x.noteAt(0, 89));
    }

    private static void moveMoves() {
        Sentences.name("Promise 5", "Moves a note.");
        Used x = Texts.of("BBB");
        x.note(0, 0, 2);
        x.note(0, 0, 1);
        x.move(0, 0, 2);
        Checks.due("the note", "2 0", x.noteAt(0, 0) + " " + x.noteAt(0, 1));
        Checks.due("with its rows", "2 1 3", Texts.each(x, 0, 2));
        x.move(0, 0, 2);
        Checks.due("to where it is", 2, x.noteAt(0, 0));
        x.remove(0, 2);
        Checks.due("its line was taken out", 1, x.noteAt(0, 0));
        x.move(0, 0, 0);
        Checks.due("and it is moved from there", 0, x.noteAt(0, 0));
        x.remove(0, 0);
        x.remove(0, 1);
        int line = x.insert(0, 2, 1, true);
        x.move(0, 1, line);
        Checks.due("from where none was there", line, x.noteAt(0, 1));
    }

    private static void syncGets() {
        Sentences.name("Promise 6", "Lets a site get deeds from another one.");
        for (int from = 0; from < 4; from++) {
            for (int to = 0; to < 4; to++) {
                Used x = new Used();
                x.insert(from, NONE, 1, true);
                Checks.due("from " + from + " to " + to, from == to ? 0 : 1, x.sync(from, to));
                Checks.due("it is there", 1, x.lines(to));
                Checks.due("it knows it", 1, x.known(to));
                Checks.due("none came back", 1, x.known(from));
            }
        }
    }

    private static void syncCounts() {
        Sentences.name("Promise 6", "Returns how many.");
        Used x = Texts.full();
        Checks.due("none", 0, x.sync(1, 0));
        Checks.due("all ninety", 90, x.sync(0, 1));
        Checks.due("none are left", 0, x.sync(0, 1));
        Checks.due("none come back", 0, x.sync(1, 0));
        Checks.due("from itself", 0, x.sync(0, 0));
        Checks.due("all ninety go on", 90, x.sync(1, 2));
        Checks.due("none that another one brought", 0, x.sync(0, 2));
    }

    private static void printGoesOn() {
        Sentences.name("Promise 7", "Prints the next sheet.");
        Used x = Texts.of("BnnnnnnnBBnnnBBBBBBBBBBB");
        Checks.due("cut", "6 5 6 6 1", Texts.cut(x, 0));
        for (int page = 0; page < 6; page += 2) {
            x.print();
            Checks.due("the first page of the sheet is as it is now", 0, x.differs(page));
            Checks.due("the second page, too", 0, x.differs(page + 1));
        }
        Checks.fails("no page of five is left", Refused.STATE, () -> x.print());
    }

    private static void printCounts() {
        Sentences.name("Promise 7", "Returns how many lines are on it.");
        Used x = Texts.of("BnnnnnnnBBnnnBBBBBBBBBBB");
        Checks.due("two pages", 11, x.print());
        Checks.due("the next two", 12, x.print());
        Checks.due("the last one alone", 1, x.print());
        Checks.due("one line", 1, Texts.of("B").print());
        Checks.due("as many as there can be", 12, Texts.of("B".repeat(90)).print());
        Checks.due("two pages of a line each", 2, Texts.of("BBB", "666").print());
    }

    private static void sheetsCount() {
        Sentences.name("Promise 8", "Returns how many sheets were printed.");
        Used x = Texts.of("B".repeat(45), "4".repeat(45));
        for (int sheet = 0; sheet < 23; sheet++) {
            Checks.due("so far", sheet, x.sheets());
            Checks.due("lines", sheet < 22 ? 2 : 1, x.print());
        }
        Checks.due("all", 23, x.sheets());
        Checks.fails("none beyond", Refused.STATE, () -> x.print());
        Checks.due("what was not printed is not counted", 23, x.sheets());
        Checks.due("the last page with a line", 0, x.differs(44));
        Checks.due("the last page", 0, x.differs(45));
        Used y = Texts.of("B");
        y.print();
        y.remove(0, 0);
        Checks.due("what was printed stays printed", 1, y.sheets());
    }

    private static void differsCounts() {
        Sentences.name("Promise 9", "Returns by how much a printed page differs.");
        Used x = Texts.of("B".repeat(12));
        x.print();
        Checks.due("nought", "0 0", x.differs(0) + " " + x.differs(1));
        x.remove(0, 3);
        Checks.due("2 and 1", "2 1", x.differs(0) + " " + x.differs(1));
        for (int line = 0; line < 12; line++) {
            x.insert(0, NONE, 1, true);
        }
        Checks.due("all", "12 12", x.differs(0) + " " + x.differs(1));
    }

    private static void differsFromNought() {
        Sentences.name("Promise 9", "`page`: from 0");
        Used x = Texts.of("B".repeat(90));
        for (int sheet = 0; sheet < 7; sheet++) {
            x.print();
        }
        x.print();
        for (int page = 0; page < 16; page++) {
            Checks.due("page " + page, 0, x.differs(page));
        }
        Checks.fails("page 16", Refused.OUT, () -> x.differs(16));
    }

    private static void costAddsUp() {
        Sentences.name("Promise 10", "Returns what it costs to put all printed sheets right, together.");
        Used x = Texts.of("B".repeat(25));
        Checks.due("none was printed", 0, x.cost());
        x.print();
        Checks.due("nothing differs", 0, x.cost());
        x.print();
        x.print();
        Checks.due("nothing differs", 0, x.cost());
        x.note(0, 24, 1);
        Checks.due("the last one", 1 + 2, x.cost());
        x.remove(0, 23);
        x.remove(0, 22);
        x.remove(0, 21);
        Checks.due("page 3 has 3 less, 1 came, page 4 has none", (1 + 3 + 1) + (1 + 1), x.cost());
        x.remove(0, 0);
        Checks.due("0 to 3 differ by 2, page 0 to 2 by one that is gone and one that came",
                (1 + 2 + 1 + 2) + (1 + 2 + 1 + 5) + (1 + 1), x.cost());
        x.remove(0, 1);
        Checks.due("10 and 10 and 2", (1 + 4 + 1 + 4) + 10 + (1 + 1), x.cost());
        for (int line = 2; line < 21; line++) {
            x.remove(0, line);
        }
        x.remove(0, 24);
        Checks.due("all are gone", 10 + 10 + (1 + 1), x.cost());
    }

    private static void linesCount() {
        Sentences.name("Promise 11", "Returns how many lines are there at a site.");
        Used x = new Used();
        for (int line = 0; line < 45; line++) {
            x.insert(0, NONE, 1, true);
            Checks.due("one more", line + 1, x.lines(0));
        }
        Checks.due("at another site", 0, x.lines(3));
        x.sync(0, 3);
        for (int line = 0; line < 45; line++) {
            x.remove(3, line);
            Checks.due("one less", 44 - line, x.lines(3));
        }
        Checks.due("at the one that does not know it", 45, x.lines(0));
    }

    /** Lines 1, 2, 3, 5 and 6 are there, of which 2 and 6 begin paragraphs. */
    private static Used fiveOfEight() {
        Used x = Texts.of("BnBnBnBn");
        x.remove(0, 0);
        x.remove(0, 4);
        x.remove(0, 7);
        return x;
    }

    private static void lineAtCountsThose() {
        Sentences.name("Promise 12", "Returns a line of a site, of those that are there.");
        Used x = fiveOfEight();
        Checks.due("of those that are there", "1 2 3 5 6", Texts.each(x, 0, 0));
        Checks.due("of that site", NONE, x.lineAt(1, 0, 0));
    }

    private static void lineAtFromNought() {
        Sentences.name("Promise 12", "`place`: from 0");
        Used x = fiveOfEight();
        Checks.due("the first place", 1, x.lineAt(0, 0, 0));
        Checks.due("the last place", 6, x.lineAt(0, 4, 0));
    }

    private static void lineAtTells() {
        Sentences.name("Promise 12", "`what`: 0 its number, 1 its value, 2 its rows, with those of notes, 3 whether it begins a "
                + "paragraph (1 or 0), 4 its page");
        Used x = fiveOfEight();
        x.note(0, 3, 3);
        x.note(0, 5, 2);
        x.remove(0, 5);
        Checks.due("numbers", "1 2 3 6", Texts.each(x, 0, 0));
        Checks.due("values", "1 2 3 6", Texts.each(x, 0, 1));
        Checks.due("rows", "1 1 6 1", Texts.each(x, 0, 2));
        Checks.due("begins", "1 1 0 1", Texts.each(x, 0, 3));
        Checks.due("pages", "0 1 2 3", Texts.each(x, 0, 4));
    }

    private static void lineAtTellsNone() {
        Sentences.name("Promise 12", "Returns as told; NONE if there are not so many.");
        Used x = fiveOfEight();
        for (int what = 0; what <= 4; what++) {
            Checks.due("one place too far", NONE, x.lineAt(0, 5, what));
            Checks.due("a place of a line that was taken out", NONE, x.lineAt(0, 7, what));
            Checks.due("as far as can be", NONE, x.lineAt(0, Texts.MAX, what));
            Checks.due("without lines", NONE, x.lineAt(1, 0, what));
        }
    }

    /** Lines 0 to 3 in a row, 4 of site 1 and 5 of site 0 both behind 1, and 6 behind 5. */
    private static Used mergedSeven() {
        Used x = Texts.of("BBBB");
        x.sync(0, 1);
        x.insert(1, 1, 1, true);
        x.insert(0, 1, 1, true);
        x.insert(0, 5, 1, true);
        x.sync(1, 0);
        return x;
    }

    private static void lineAnewOrders() {
        Sentences.name("Promise 13", "Returns the number of a line of a site, found by putting all lines anew in order, each behind "
                + "that to which it belongs.");
        Used x = mergedSeven();
        Checks.due("order", "0 1 4 5 6 2 3", Texts.order(x, 0));
        Checks.due("order where less is known", "0 1 4 2 3", Texts.order(x, 1));
    }

    private static void lineAnewFromNought() {
        Sentences.name("Promise 13", "`place`: from 0");
        Used x = mergedSeven();
        Checks.due("the first place", 0, x.lineAnew(0, 0));
        Checks.due("the last place", 3, x.lineAnew(0, 6));
        x.remove(0, 0);
        x.remove(0, 5);
        Checks.due("the first place of those that are there", 1, x.lineAnew(0, 0));
        Checks.due("the last place of those that are there", 3, x.lineAnew(0, 4));
    }

    private static void lineAnewTellsNone() {
        Sentences.name("Promise 13", "Returns the line; NONE if there are not so many.");
        Used x = mergedSeven();
        Checks.due("one place too far", NONE, x.lineAnew(0, 7));
        x.remove(0, 1);
        Checks.due("one place too far of those that are there", NONE, x.lineAnew(0, 6));
        Checks.due("as far as can be", NONE, x.lineAnew(0, Texts.MAX));
        Checks.due("without lines", NONE, x.lineAnew(2, 0));
        Checks.due("the line, and again the same", "4 4", x.lineAnew(0, 1) + " " + x.lineAnew(0, 1));
    }

    private static void noteAtTells() {
        Sentences.name("Promise 14", "Returns at which line a note is.");
        Used x = Texts.of("BB");
        x.note(0, 1, 1);
        x.note(0, 0, 1);
        Checks.due("each by itself", "1 0", x.noteAt(0, 0) + " " + x.noteAt(0, 1));
    }

    private static void noteAtTellsNone() {
        Sentences.name("Promise 14", "Returns the line; NONE if it is nowhere.");
        Used x = Texts.of("BB");
        x.note(0, 1, 1);
        x.note(0, 0, 1);
        x.remove(0, 1);
        Checks.due("ahead", "0 0", x.noteAt(0, 0) + " " + x.noteAt(0, 1));
        x.remove(0, 0);
        Checks.due("nowhere", NONE + " " + NONE, x.noteAt(0, 0) + " " + x.noteAt(0, 1));
        x.sync(0, 2);
        Checks.due("nowhere where it came, too", NONE + " " + NONE, x.noteAt(2, 0) + " " + x.noteAt(2, 1));
    }

    private static void pagesCount() {
        Sentences.name("Promise 15", "Returns how many pages a site has.");
        Used x = new Used();
        Checks.due("none", 0, x.pages(0));
        for (int lines = 1; lines <= 90; lines++) {
            x.insert(0, NONE, 1, true);
            Checks.due(lines + " lines", (lines + 5) / 6, x.pages(0));
        }
        Checks.due("another site", 0, x.pages(1));
        Used y = Texts.of("BB");
        y.sync(0, 1);
        y.remove(0, 0);
        y.remove(0, 1);
        Checks.due("none any more", 0, y.pages(0));
        Checks.due("where that is not known", 1, y.pages(1));
    }

    private static void aheadAnewTries() {
        Sentences.name("Promise 16", "Returns how many lines of a site are on pages ahead of one, found by trying all cuts of each page, "
                + "the latest first.");
        Checks.due("some are cut earlier", "5 5 2", Texts.cut(Texts.of("BnnnnBnnnBBn"), 0));
        Checks.due("all cuts of some pages are bad", "2 1 2 1 1", Texts.cut(Texts.of("BnnBnnn", "3313366"), 0));
    }

    private static void aheadAnewFromNought() {
        Sentences.name("Promise 16", "`page`: from 0");
        Used x = Texts.of("BnnnnBnnnBBn");
        Checks.due("none", 0, x.aheadAnew(0, 0));
        Checks.due("one page", 5, x.aheadAnew(0, 1));
        Checks.due("two pages", 10, x.aheadAnew(0, 2));
    }

    private static void aheadAnewTellsAll() {
        Sentences.name("Promise 16", "Returns how many; all of them, if there are not so many pages.");
        Used x = Texts.of("BnnnnBnnnBBn");
        Checks.due("one page too far", 12, x.aheadAnew(0, 3));
        Checks.due("farther", 12, x.aheadAnew(0, 4));
        Checks.due("as far as can be", 12, x.aheadAnew(0, Texts.MAX));
        Checks.due("without lines", 0, x.aheadAnew(1, 0));
        Checks.due("without lines", 0, x.aheadAnew(1, 1));
        Checks.due("without lines", 0, x.aheadAnew(1, Texts.MAX));
    }

    private static void knownCounts() {
        Sentences.name("Promise 17", "Returns how many deeds a site knows.");
        Used x = Texts.of("Bn");
        Checks.due("lines", 2, x.known(0));
        x.note(0, 0, 1);
        x.move(0, 0, 1);
        x.remove(0, 0);
        Checks.due("all kinds of deeds", 5, x.known(0));
        Checks.due("of no other site", 0, x.known(1));
        x.insert(1, NONE, 1, true);
        x.sync(0, 1);
        Checks.due("its own and those it got", 6, x.known(1));
        x.sync(0, 1);
        x.print();
        Checks.due("getting none, and printing", "5 6", x.known(0) + " " + x.known(1));
        Used y = Texts.full();
        Checks.due("as many as there can be", 90, y.known(0));
        Checks.due("none", 0, y.known(3));
        y.sync(0, 3);
        Checks.due("as many as there can be", 90, y.known(3));
    }
}
