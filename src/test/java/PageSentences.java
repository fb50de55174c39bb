/** Terms, "Pages": rows, room, bad cuts. Letters are lines, B begins a paragraph; digits are their rows. */
final class PageSentences {
    private static final String PART = "Pages";

    private PageSentences() {
    }

    static void check() {
        pageHasSixRows();
        lineTakesRows();
        pageTakesWhatHasRoom();
        cutBehindABeginning();
        cutAheadOfTheLast();
        cutAheadOfTheLastOfAParagraph();
        oneLineLessAndSoOn();
        staysAsItWas();
        noCutBehindTheLast();
        firstLineBegins();
        Sentences.checkNoneIsLeft(PART);
    }

    private static void cuts(String what, String letters, String rows, String want) {
        Used x = Texts.of(letters, rows);
        String taken = rows.isEmpty() ? "1".repeat(letters.length()) : rows;
        Checks.due(what + ": rows of " + letters, taken, Texts.each(x, 0, 2).replace(" ", ""));
        Checks.due(what + ": " + letters + " " + rows, want, Texts.cut(x, 0));
    }

    private static void pageHasSixRows() {
        Sentences.name(PART, "A page has 6 rows.");
        cuts("no line", "", "", "");
        cuts("one line", "B", "", "1");
        cuts("one row less", "BBBBB", "", "5");
        cuts("full", "BBBBBB", "", "6");
        cuts("one row more", "BBBBBBB", "", "6 1");
        cuts("two full pages", "BBBBBBBBBBBB", "", "6 6");
        cuts("and one row more", "BBBBBBBBBBBBB", "", "6 6 1");
    }

    private static void lineTakesRows() {
        Sentences.name(PART, "A line takes one row, and those of the notes that are at it, but at most 6 together.");
        Used x = Texts.of("BB");
        Checks.due("without notes", "1 1", Texts.each(x, 0, 2));
        x.note(0, 0, 1);
        Checks.due("with the least note", "2 1", Texts.each(x, 0, 2));
        x.note(0, 0, 3);
        Checks.due("one row less than a page", "5 1", Texts.each(x, 0, 2));
        x.note(0, 0, 1);
        Checks.due("6", "6 1", Texts.each(x, 0, 2));
        x.note(0, 0, 1);
        Checks.due("not 7", "6 1", Texts.each(x, 0, 2));
        Checks.due("a page of its own", "1 1", Texts.cut(x, 0));
        x.move(0, 1, 1);
        Checks.due("the rows beyond 6 count again when others leave", "4 4", Texts.each(x, 0, 2));
        x.note(0, 1, 3);
        Checks.due("not 7 at once", "4 6", Texts.each(x, 0, 2));
        x.remove(0, 1);
        Checks.due("all notes together", "6", Texts.each(x, 0, 2));
        Used y = Texts.of("B");
        for (int note = 0; note < 89; note++) {
            y.note(0, 0, 3);
        }
        Checks.due("89 notes at one line", "6", Texts.each(y, 0, 2));
        Checks.due("89 notes at one line", "1", Texts.cut(y, 0));
    }

    private static void pageTakesWhatHasRoom() {
        Sentences.name(PART, "A page takes as many lines as have room on it, from the one behind the last page on, but it may end "
                + "earlier:");
        cuts("just room", "BB", "51", "2");
        cuts("just room", "BB", "42", "2");
        cuts("one row too many", "BB", "52", "1 1");
        cuts("one row too many", "BB", "61", "1 1");
        cuts("one row too many", "BB", "16", "1 1");
        cuts("one line more", "BBB", "331", "2 1");
        cuts("a line that has no room is not passed over", "BBB", "361", "1 1 1");
        cuts("each page by itself", "BBBBBB", "361234", "1 1 3 1");
        cuts("ends earlier", "BnnnBnn", "", "4 3");
        Used full = Texts.of("B".repeat(45), "4".repeat(45));
        Checks.due("as many pages as there can be", 45, full.pages(0));
        Checks.due("the last of them", 44, full.lineAt(0, 44, 4));
        Checks.due("ahead of the last", 44, full.aheadAnew(0, 44));
        Checks.due("behind the last", 45, full.aheadAnew(0, 45));
    }

    private static void cutBehindABeginning() {
        Sentences.name(PART, "a cut between two lines is bad, if the former one begins a paragraph, and the latter one does not,");
        cuts("the former one begins, the latter one does not", "BBBBBBnn", "", "5 3");
        cuts("both begin", "BBBBBBBn", "", "6 2");
        cuts("only the latter one begins", "BBBBBnBn", "", "6 2");
        cuts("neither begins", "BBBBBnnnn", "", "6 3");
        cuts("neither begins", "BBBBnnnn", "", "6 2");
    }

    private static void cutAheadOfTheLast() {
        Sentences.name(PART, "or if the latter one does not begin a paragraph, but is the last one of all,");
        cuts("the last one of all does not begin", "Bnnnnnn", "", "5 2");
        cuts("it is not the last one", "Bnnnnnnn", "", "6 2");
        cuts("the last one of all begins", "BnnnnnB", "", "6 1");
        Used x = Texts.of("Bnnnnnnn");
        x.remove(0, 7);
        Checks.due("the last one of those that are there", "5 2", Texts.cut(x, 0));
    }

    private static void cutAheadOfTheLastOfAParagraph() {
        Sentences.name(PART, "or the next one begins one.");
        cuts("the next one begins", "BnnnnnnB", "", "5 3");
        cuts("the next one does not", "Bnnnnnnn", "", "6 2");
        cuts("the latter one begins, and the next one, too", "BnnnnnBB", "", "6 2");
        Used x = Texts.of("BnnnnnnnBn");
        Checks.due("one more line ahead of the next paragraph", "6 4", Texts.cut(x, 0));
        x.remove(0, 7);
        Checks.due("the next one of those that are there", "5 4", Texts.cut(x, 0));
    }

    private static void oneLineLessAndSoOn() {
        Sentences.name(PART, "If the cut is bad, the page ends with one line less, and so on;");
        cuts("one line less", "BBBBBBn", "", "5 2");
        cuts("two lines less", "BBBBBnn", "", "4 3");
        cuts("down to one line, from two", "BBn", "332", "1 2");
        cuts("down to one line, from three", "BBnn", "2221", "1 3");
        cuts("on later pages, too", "BBBBBBBBBBBBn", "", "6 5 2");
        cuts("and from where the page ahead ended", "BBBBBBnBBBBnn", "", "5 5 3");
    }

    private static void staysAsItWas() {
        Sentences.name(PART, "if all cuts from there down to one line are bad, it stays as it was at first.");
        cuts("one line, behind a beginning", "Bnnn", "6111", "1 3");
        cuts("one line, ahead of the last of all", "nnnn", "3366", "2 1 1");
        cuts("two lines, the last of all behind", "Bnn", "331", "2 1");
        cuts("two lines, the last of a paragraph behind", "BnnB", "3311", "2 2");
        cuts("one line, ahead of the last of a paragraph", "BnnnB", "33661", "2 1 1 1");
        cuts("not so, if the cut at one line is good", "BBnn", "2221", "1 3");
    }

    private static void noCutBehindTheLast() {
        Sentences.name(PART, "Behind the last line there is no cut.");
        cuts("a full page that ends with a beginning", "BBBBBB", "", "6");
        cuts("a full page that ends with the last one", "Bnnnnn", "", "6");
        cuts("one that begins alone", "BBBBBBB", "", "6 1");
        cuts("two that belong together", "BBBBBBBn", "", "6 2");
        cuts("one line", "n", "", "1");
        cuts("one full line", "n", "6", "1");
    }

    private static void firstLineBegins() {
        Sentences.name(PART, "The first line of all that are there begins a paragraph, whatever was told.");
        Used x = Texts.of("nnnB");
        Checks.due("the first one alone", "1 0 0 1", Texts.each(x, 0, 3));
        x.remove(0, 0);
        Checks.due("the next one is first", "1 0 1", Texts.each(x, 0, 3));
        x.insert(0, Mergeparlour.NONE, 1, false);
        Checks.due("another one came first", "1 0 0 1", Texts.each(x, 0, 3));
        x.sync(0, 1);
        x.remove(1, 4);
        Checks.due("at each site by itself", "1 0 1", Texts.each(x, 1, 3));
        cuts("it begins: a cut behind it is bad, and the other one, too", "nnn", "331", "2 1");
        Used y = Texts.of("Bnnn", "3111");
        y.remove(0, 0);
        Checks.due("the note went to the one that is first", "3 1 1", Texts.each(y, 0, 2));
        Checks.due("it fits", "3", Texts.cut(y, 0));
        y.note(0, 1, 2);
        Checks.due("and a cut behind it is bad", "2 1", Texts.cut(y, 0));
    }
}
