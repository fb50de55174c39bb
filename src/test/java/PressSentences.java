/** Terms, "Press": sheets, what printed pages differ by, slips and what they cost. */
final class PressSentences {
    private static final String PART = "Press";
    private static final int NONE = Mergeparlour.NONE;

    private PressSentences() {
    }

    static void check() {
        sheetsInOrder();
        pagesOfASheet();
        pageDiffersByLines();
        otherRowsCountTwice();
        slipCosts();
        sheetCosts();
        theLessIsTaken();
        Sentences.checkNoneIsLeft(PART);
    }

    private static void sheetsInOrder() {
        Sentences.name(PART, "Sheets are printed in order, from site 0:");
        Used x = new Used();
        x.insert(1, NONE, 1, true);
        Checks.fails("lines of another site alone", Refused.STATE, () -> x.print());
        x.sync(1, 0);
        Checks.due("when site 0 got them", 1, x.print());
        x.insert(1, NONE, 1, true);
        Checks.due("another site alone changes nothing", 0, x.differs(0));
        Used y = Texts.of("B".repeat(30));
        Checks.due("the first two pages", 12, y.print());
        y.remove(0, 0);
        Checks.due("the next two, as they are by now", 12, y.print());
        y.remove(0, 1);
        Checks.due("the last one", 4, y.print());
        for (int page = 0; page < 6; page++) {
            int[] wanted = {4, 4, 2, 2, 0, 0};
            Checks.due("each page as it was when it was printed, page " + page, wanted[page], y.differs(page));
        }
    }

    private static void pagesOfASheet() {
        Sentences.name(PART, "the sheet n, from 0, has the pages 2 n and 2 n + 1 as they are then (the second one may have no lines).");
        for (int lines = 1; lines <= 25; lines++) {
            Used x = Texts.of("B".repeat(lines));
            for (int first = 0; first < lines; first += 12) {
                Checks.due(lines + " lines, from " + first, Math.min(12, lines - first), x.print());
            }
            Checks.fails(lines + " lines, no sheet more", Refused.STATE, () -> x.print());
        }
        Used y = Texts.of("B");
        y.print();
        Checks.due("a second page without lines is printed", 0, y.differs(1));
        Checks.fails("a third one is not", Refused.OUT, () -> y.differs(2));
        for (int line = 1; line <= 12; line++) {
            y.insert(0, line - 1, 1, true);
        }
        Checks.due("lines came to the page that had none", 6, y.differs(1));
        Checks.due("the next sheet goes on behind it", 1, y.print());
        Checks.due("the page that had none stays as it was", 6, y.differs(1));
    }

    private static void pageDiffersByLines() {
        Sentences.name(PART, "A printed page differs by how many of its lines (with their rows) are not on that page of site 0 by now, "
                + "and how many lines (with their rows) are there now, and were not;");
        Used x = Texts.of("B".repeat(13));
        x.print();
        Checks.due("none", "0 0", differences(x));
        x.remove(0, 12);
        Checks.due("a page that was not printed", "0 0", differences(x));
        x.remove(0, 11);
        Checks.due("one line is gone", "0 1", differences(x));
        x.remove(0, 0);
        Checks.due("one is gone and one came; two are gone", "2 2", differences(x));
        int back = x.insert(0, NONE, 1, true);
        Checks.due("another one in its place", "2 1", differences(x));
        x.insert(0, back, 1, true);
        Checks.due("pushed on by one", "4 2", differences(x));
        for (int line = 1; line <= 10; line++) {
            x.remove(0, line);
        }
        Checks.due("all others, and no page any more", "8 6", differences(x));
        x.remove(0, back);
        x.remove(0, 14);
        Checks.due("no lines any more", "6 6", differences(x));
        Used y = Texts.of("B");
        y.print();
        y.remove(0, 0);
        Checks.due("its only line", "1 0", differences(y));
        for (int line = 1; line <= 12; line++) {
            y.insert(0, NONE, 1, true);
        }
        Checks.due("its only line, and six came; six came", "7 6", differences(y));
    }

    private static String differences(Used x) {
        return x.differs(0) + " " + x.differs(1);
    }

    private static void otherRowsCountTwice() {
        Sentences.name(PART, "a line with other rows counts twice.");
        Used x = Texts.of("BBB");
        x.note(0, 0, 1);
        x.print();
        x.move(0, 0, 0);
        Checks.due("the same rows", "0 0", differences(x));
        x.note(0, 0, 1);
        Checks.due("one line with other rows", "2 0", differences(x));
        x.move(0, 0, 1);
        Checks.due("rows went from one line to another, and came to the first", "2 0", differences(x));
        x.move(0, 0, 2);
        x.move(0, 1, 1);
        Checks.due("all three", "6 0", differences(x));
        x.remove(0, 1);
        Checks.due("one is gone, the first one is as it was, one has other rows", "3 0", differences(x));
        Used y = Texts.of("BB", "61");
        y.print();
        y.note(0, 0, 3);
        Checks.due("rows beyond 6 are no other rows", "0 0", differences(y));
    }

    private static void slipCosts() {
        Sentences.name(PART, "A slip of a page that differs costs 1, and what it differs by;");
        Used x = Texts.of("BBBBBBB");
        Checks.due("nothing was printed", 0, x.cost());
        x.print();
        Checks.due("no page differs, so there is no slip", 0, x.cost());
        x.insert(0, 6, 1, true);
        Checks.due("differs by 1", 1 + 1, x.cost());
        x.insert(0, 7, 1, true);
        Checks.due("differs by 2", 1 + 2, x.cost());
        x.remove(0, 0);
        Checks.due("two slips, by 2 and by 3", (1 + 2) + (1 + 3), x.cost());
        Used y = Texts.of("B");
        y.print();
        y.note(0, 0, 1);
        Checks.due("no slip for a page without lines", 1 + 2, y.cost());
        y.remove(0, 0);
        Checks.due("no page any more", 1 + 1, y.cost());
    }

    private static void sheetCosts() {
        Sentences.name(PART, "a sheet costs 10 to be printed.");
        Used x = Texts.of("B".repeat(25));
        for (int sheet = 0; sheet < 3; sheet++) {
            x.print();
            Checks.due("when it is printed, nothing is to be put right", 0, x.cost());
        }
        for (int line = 0; line < 25; line++) {
            x.remove(0, line);
        }
        Checks.due("two full sheets, and one of one line", 10 + 10 + (1 + 1), x.cost());
        for (int line = 0; line < 25; line++) {
            x.insert(0, NONE, 1, true);
        }
        Checks.due("two full sheets, and another line for the one", 10 + 10 + (1 + 2), x.cost());
    }

    private static void theLessIsTaken() {
        Sentences.name(PART, "What a sheet costs to be put right is the slips of both pages, or 10, if that is less.");
        Checks.due("9 for one page", 9, costOfOtherPage(2));
        Checks.due("10 for one page", 10, costOfOtherPage(3));
        Checks.due("not 11 for one page", 10, costOfOtherPage(4));
        Checks.due("not 13 for one page", 10, costOfOtherPage(6));
        Checks.due("3 and 2", 5, costWithout(12, 1));
        Checks.due("5 and 3", 8, costWithout(12, 2));
        Checks.due("5 and 4", 9, costWithout(13, 2));
        Checks.due("5 and 5", 10, costWithout(14, 2));
        Checks.due("not 7 and 4", 10, costWithout(12, 3));
        Checks.due("not 7 and 6", 10, costWithout(14, 3));
        Used x = Texts.of("B".repeat(14));
        x.print();
        x.print();
        x.insert(0, 13, 1, true);
        Checks.due("each sheet by itself", 2, x.cost());
        x.remove(0, 0);
        x.remove(0, 1);
        x.remove(0, 2);
        Checks.due("not 7 and 7, but 10, and then 3 that are gone", 10 + 1 + 2, x.cost());
    }

    /** The second page had so many lines, and has six others now; the first one is as it was. */
    private static int costOfOtherPage(int lines) {
        Used x = Texts.of("B".repeat(6 + lines));
        x.print();
        for (int line = 6; line < 6 + lines; line++) {
            x.remove(0, line);
        }
        for (int line = 0; line < 6; line++) {
            x.insert(0, 5, 1, true);
        }
        Checks.due("the first page is as it was", 0, x.differs(0));
        Checks.due("the second one is another", 6 + lines, x.differs(1));
        return x.cost();
    }

    /** So many lines, two pages of them printed, and then the first ones taken out. */
    private static int costWithout(int lines, int gone) {
        Used x = Texts.of("B".repeat(lines));
        x.print();
        for (int line = 0; line < gone; line++) {
            x.remove(0, line);
        }
        return x.cost();
    }
}
