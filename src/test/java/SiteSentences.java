/** Terms, "Sites, lines": sites, clocks, stamps, deeds, and the order of lines. */
final class SiteSentences {
    private static final String PART = "Terms";
    private static final int NONE = Mergeparlour.NONE;

    private interface Deed {
        void at(Used x, int site);
    }

    private SiteSentences() {
    }

    static void check() {
        sites();
        clocks();
        stampsGoUp();
        stampsAreCompared();
        deedsAreGot();
        clocksAreGot();
        atMostNinetyDeeds();
        deedOfPuttingIn();
        deedOfTakingOut();
        deedOfNoting();
        deedOfMoving();
        numbers();
        takenOutKeepTheirPlace();
        order();
        there();
        noteIsAtItsLine();
        noteIsAtTheNearest();
        noteIsAtTheFirst();
        noteIsNowhere();
        Sentences.checkNoneIsLeft(PART);
    }

    private static void sites() {
        Sentences.name(PART, "There are the sites 0 to 3.");
        Used x = new Used();
        for (int site = 0; site <= 3; site++) {
            Checks.due("site " + site + " puts in", site, x.insert(site, NONE, site, true));
            Checks.due("site " + site + " has its line", 1, x.lines(site));
            Checks.due("site " + site + " alone knows it", 1, x.known(site));
        }
        for (int site : Texts.noSites()) {
            Checks.fails("site " + site, Refused.OUT, () -> x.lines(site));
        }
    }

    private static void clocks() {
        Sentences.name(PART, "Each has a clock, 0 at first, and knows deeds, its own and those that it got from others.");
        for (int lesser = 0; lesser < 3; lesser++) {
            for (int greater = lesser + 1; greater < 4; greater++) {
                Used x = new Used();
                x.insert(lesser, NONE, 0, true);
                x.insert(lesser, NONE, 1, true);
                x.insert(greater, NONE, 2, true);
                x.sync(greater, lesser);
                Checks.due("clocks 1 and 2 at " + lesser + ", 1 at " + greater, "1 2 0", Texts.order(x, lesser));
                Checks.due("its own and those it got", 3, x.known(lesser));
                Checks.due("none that it did not get", 1, x.known(greater));
            }
        }
    }

    private static void stampsGoUp() {
        Sentences.name(PART, "Each deed has a stamp: the clock of its site, which becomes 1 more ahead of that, and the site;");
        clockGoesUpBy("insert", (x, site) -> x.insert(site, 1, 5, false));
        clockGoesUpBy("remove", (x, site) -> x.remove(site, 1));
        clockGoesUpBy("note", (x, site) -> x.note(site, 0, 1));
        clockGoesUpBy("move", (x, site) -> x.move(site, 0, 0));
        clockStaysBy("print", (x, site) -> x.print());
        clockStaysBy("sync from it", (x, site) -> x.sync(site, 2));
        clockStaysBy("sync with itself", (x, site) -> x.sync(site, site));
        clockStaysBy("sync to it, with nothing to get", (x, site) -> x.sync(1, site));
        clockStaysBy("questions", (x, site) -> Snapshot.of(x));
    }

    private static void clockGoesUpBy(String what, Deed deed) {
        Checks.due(what + " makes the clock 1 more", "five own four", orderAfter(deed));
    }

    private static void clockStaysBy(String what, Deed noDeed) {
        Checks.due(what + " leaves the clock", "five four own", orderAfter(noDeed));
    }

    /** Both clocks are 3: site 1 puts in with 4 and 5, site 0 behind the deed with 5, or with 4 if it was none. */
    private static String orderAfter(Deed deed) {
        Used x = Texts.of("BB");
        x.note(0, 0, 1);
        x.sync(0, 1);
        deed.at(x, 0);
        int own = x.insert(0, NONE, 0, true);
        int four = x.insert(1, NONE, 0, true);
        x.insert(1, NONE, 0, true);
        x.sync(1, 0);
        StringBuilder order = new StringBuilder();
        for (int place = 0; place < 3; place++) {
            int line = x.lineAt(0, place, 0);
            order.append(line == own ? "own " : line == four ? "four " : "five ");
        }
        return order.toString().trim();
    }

    private static void stampsAreCompared() {
        Sentences.name(PART, "a stamp is greater than another one, if its clock is, or that is the same and its site is.");
        Used x = new Used();
        for (int site = 0; site < 4; site++) {
            x.insert(site, NONE, site, true);
        }
        Texts.syncAll(x);
        Checks.due("the same clock: the greater site", "3 2 1 0", Texts.order(x, 0));
        Used y = new Used();
        y.insert(3, NONE, 0, true);
        y.insert(3, NONE, 1, true);
        y.insert(0, NONE, 2, true);
        y.insert(0, NONE, 3, true);
        y.insert(0, NONE, 4, true);
        y.sync(3, 0);
        Checks.due("the greater clock, though the site is less", "4 1 3 0 2", Texts.order(y, 0));
        Used z = Texts.of("BBB");
        z.note(0, 0, 1);
        z.sync(0, 3);
        z.move(0, 0, 1);
        z.move(3, 0, 2);
        z.sync(3, 0);
        Checks.due("of moves, too: the greater site", 2, z.noteAt(0, 0));
        z.move(0, 0, 0);
        z.move(0, 0, 1);
        z.move(3, 0, 2);
        z.sync(3, 0);
        Checks.due("of moves, too: the greater clock", 1, z.noteAt(0, 0));
    }

    private static void deedsAreGot() {
        Sentences.name(PART, "When a site gets deeds from another one, it gets all that it does not know, in the order in "
                + "which that one came to know them,");
        Used x = Texts.of("Bn");
        Checks.due("all", 2, x.sync(0, 1));
        x.insert(1, 1, 2, false);
        x.insert(2, NONE, 3, true);
        Checks.due("its own and what it got", 3, x.sync(1, 2));
        x.insert(2, 2, 4, false);
        x.note(2, 4, 1);
        Checks.due("all but what it knows", 3, x.sync(2, 1));
        Checks.due("all the way round", 4, x.sync(2, 0));
        Checks.due("lines stand on lines of other sites", "3 0 1 2 4", Texts.order(x, 0));
        Checks.due("and notes on them", 4, x.noteAt(0, 0));
        Checks.due("none are left", 0, x.sync(1, 0));
        Checks.due("none to get from a site without deeds", 0, x.sync(3, 0));
        Checks.due("all at once", 6, x.sync(0, 3));
        Checks.due("the same text", "3 0 1 2 4", Texts.order(x, 3));
    }

    private static void clocksAreGot() {
        Sentences.name(PART, "and its clock becomes the greater one of both.");
        Used x = Texts.of("Bnn");
        x.sync(0, 1);
        x.insert(0, NONE, 0, true);
        x.insert(1, NONE, 0, true);
        x.sync(1, 0);
        Checks.due("the one that gets has 0, becomes 3, and stamps 4", "4 3 0 1 2", Texts.order(x, 0));
        Used y = Texts.of("Bnn");
        y.insert(1, NONE, 0, true);
        y.sync(1, 0);
        y.insert(0, NONE, 0, true);
        y.insert(2, NONE, 0, true);
        y.insert(2, NONE, 0, true);
        y.insert(2, NONE, 0, true);
        y.insert(2, NONE, 0, true);
        y.sync(2, 0);
        Checks.due("the one that gets has 3, and keeps it", "8 4 7 6 5 3 0 1 2", Texts.order(y, 0));
        Used z = Texts.of("Bnn");
        z.insert(1, NONE, 0, true);
        z.sync(0, 1);
        z.sync(1, 2);
        z.insert(1, NONE, 0, true);
        z.insert(2, NONE, 0, true);
        z.insert(0, NONE, 0, true);
        z.sync(1, 0);
        z.sync(2, 0);
        Checks.due("what became greater goes on", "5 4 6 3 0 1 2", Texts.order(z, 0));
        Used w = Texts.of("Bnn");
        w.insert(1, NONE, 0, true);
        w.sync(1, 0);
        w.insert(1, NONE, 0, true);
        w.insert(2, NONE, 0, true);
        w.insert(2, NONE, 0, true);
        w.insert(2, NONE, 0, true);
        w.sync(1, 0);
        w.sync(2, 0);
        Checks.due("the one that gives has 1, and stamps 2", "7 6 4 5 3 0 1 2", Texts.order(w, 0));
    }

    private static void atMostNinetyDeeds() {
        Sentences.name(PART, "There are at most 90 deeds.");
        Used x = Texts.withDeeds(89);
        Checks.due("the 90th puts a line in", 2, x.insert(0, NONE, 1, true));
        Checks.fails("the 91st", Refused.STATE, () -> x.insert(0, NONE, 1, true));
        Checks.due("the 90th takes a line out", 0, Texts.withDeeds(89).remove(0, 0));
        Checks.due("the 90th makes a note", 1, Texts.withDeeds(89).note(0, 0, 1));
        Checks.due("the 90th moves a note", "moved", Texts.withDeeds(89).move(0, 0, 0));
        Used y = new Used();
        for (int deed = 0; deed < 90; deed++) {
            Checks.due("90 lines, at all sites in turn", deed, y.insert(deed % 4, NONE, 1, true));
        }
        for (int site = 0; site < 4; site++) {
            int asked = site;
            Checks.fails("the 91st at site " + site, Refused.STATE, () -> y.insert(asked, NONE, 1, true));
        }
        Checks.due("getting deeds makes none", 23, y.sync(1, 0));
        Texts.syncAll(y);
        Checks.due("all 90 lines", 90, y.lines(3));
        Checks.due("the last place", y.lineAt(3, 89, 0), y.lineAnew(3, 89));
        Checks.due("the place behind", NONE, y.lineAt(3, 90, 0));
        Used z = Texts.withDeeds(88);
        Checks.due("printing", 1, z.print());
        z.sync(0, 1);
        Checks.fails("a call that throws", Refused.ARG, () -> z.note(0, 0, 4));
        Checks.due("is no deed: the 89th", 1, z.note(0, 0, 3));
        Checks.due("is no deed: the 90th", 2, z.note(1, 0, 3));
        Checks.fails("the 91st", Refused.STATE, () -> z.note(1, 0, 3));
    }

    private static void deedOfPuttingIn() {
        Sentences.name(PART, "Deeds are: a line is put in, behind another line that the site knows, or first, with a value, "
                + "0 to 99, and whether it begins a paragraph;");
        Used x = new Used();
        x.insert(0, NONE, 0, true);
        x.insert(0, 0, 99, false);
        x.insert(0, 1, 50, true);
        x.insert(0, NONE, 7, true);
        Checks.due("order", "3 0 1 2", Texts.order(x, 0));
        Checks.due("values", "7 0 99 50", Texts.each(x, 0, 1));
        Checks.due("whether they begin", "1 1 0 1", Texts.each(x, 0, 3));
        Checks.due("each is a deed", 4, x.known(0));
    }

    private static void deedOfTakingOut() {
        Sentences.name(PART, "a line is taken out;");
        Used x = Texts.of("B");
        x.remove(0, 0);
        Checks.due("is a deed", 2, x.known(0));
        Checks.due("and is got", 2, x.sync(0, 1));
        Checks.due("empty there", 0, x.lines(1));
    }

    private static void deedOfNoting() {
        Sentences.name(PART, "a note of a line is made, of 1 to 3 rows;");
        for (int rows = 1; rows <= 3; rows++) {
            Used x = Texts.of("B");
            x.sync(0, 1);
            x.note(0, 0, rows);
            Checks.due("is a deed", 2, x.known(0));
            x.insert(1, 0, 5, true);
            Checks.due("takes no rows where it is not known", "1 1", Texts.each(x, 1, 2));
            Checks.due("and is got", 1, x.sync(0, 1));
            Checks.due("with its rows", 1 + rows, x.lineAt(1, 0, 2));
        }
    }

    private static void deedOfMoving() {
        Sentences.name(PART, "a note is moved to another line.");
        Used x = Texts.of("BB");
        x.note(0, 0, 2);
        x.move(0, 0, 1);
        Checks.due("is a deed", 4, x.known(0));
        Checks.due("and is got", 4, x.sync(0, 1));
        Checks.due("with its rows", "1 3", Texts.each(x, 1, 2));
        Checks.due("to where it is: a deed, too", "moved", x.move(0, 0, 1));
        Checks.due("to where it is: a deed, too", 5, x.known(0));
    }

    private static void numbers() {
        Sentences.name(PART, "Lines and notes are numbered from 0, each, in the order in which they were made anywhere.");
        Used x = new Used();
        Checks.due("first line", 0, x.insert(2, NONE, 1, true));
        Checks.due("first note", 0, x.note(2, 0, 1));
        Checks.due("second line, elsewhere", 1, x.insert(0, NONE, 1, true));
        Checks.due("third line", 2, x.insert(2, 0, 1, true));
        Checks.due("second note, elsewhere", 1, x.note(0, 1, 1));
        x.remove(2, 2);
        x.move(2, 0, 0);
        Checks.fails("a call that throws takes no number", Refused.ARG, () -> x.insert(2, 0, 100, true));
        Checks.fails("a call that throws takes no number", Refused.NOT, () -> x.note(2, 2, 1));
        Checks.due("no number comes again", 3, x.insert(3, NONE, 1, true));
        Checks.due("no number comes again", 2, x.note(3, 3, 1));
    }

    private static void takenOutKeepTheirPlace() {
        Sentences.name(PART, "The order of lines at a site, those that are taken out with them, is found so:");
        Used x = Texts.of("BBBB");
        x.remove(0, 1);
        x.remove(0, 2);
        Checks.due("behind one that was taken out", 4, x.insert(0, 1, 5, true));
        Checks.due("behind the next one that was taken out", 5, x.insert(0, 2, 5, true));
        Checks.due("order", "0 4 5 3", Texts.order(x, 0));
        x.remove(0, 0);
        x.remove(0, 3);
        x.remove(0, 4);
        x.remove(0, 5);
        Checks.due("with none there", 6, x.insert(0, 3, 5, true));
        Checks.due("with none there", 7, x.insert(0, 0, 5, true));
        Checks.due("order", "7 6", Texts.order(x, 0));
    }

    private static void order() {
        Sentences.name(PART, "of all lines that were put in behind the same one (or first), the one with the greater stamp comes "
                + "first, each with all that were put in behind it, and so on, right behind it.");
        Used x = Texts.of("B");
        x.sync(0, 1);
        x.sync(0, 2);
        x.insert(0, 0, 1, false);
        x.insert(0, 1, 2, false);
        x.insert(2, 0, 3, false);
        x.insert(2, 3, 4, false);
        x.insert(1, 0, 5, false);
        x.insert(1, 0, 6, false);
        x.insert(1, NONE, 7, false);
        x.sync(1, 0);
        x.sync(2, 0);
        x.sync(0, 3);
        x.sync(2, 1);
        x.sync(0, 1);
        x.sync(1, 2);
        for (int site = 0; site < 4; site++) {
            Checks.due("the same at site " + site, "7 0 6 3 4 5 1 2", Texts.order(x, site));
        }
        Used y = new Used();
        for (int line = 0; line < 90; line++) {
            y.insert(0, line - 1, 1, true);
        }
        for (int place = 0; place < 90; place++) {
            Checks.due("each behind the one before", place, y.lineAnew(0, place));
            Checks.due("each behind the one before", place, y.lineAt(0, place, 0));
        }
        Used z = new Used();
        for (int line = 0; line < 90; line++) {
            z.insert(0, NONE, 1, true);
        }
        for (int place = 0; place < 90; place++) {
            Checks.due("each first", 89 - place, z.lineAnew(0, place));
            Checks.due("each first", 89 - place, z.lineAt(0, place, 0));
        }
    }

    private static void there() {
        Sentences.name(PART, "A line is there, if it was not taken out, as far as the site knows.");
        Used x = Texts.of("Bnn");
        x.sync(0, 1);
        x.remove(0, 1);
        Checks.due("not where it was taken out", "0 2", Texts.order(x, 0));
        Checks.due("there where that is not known", "0 1 2", Texts.order(x, 1));
        Checks.due("and it can be taken out there", 2, x.remove(1, 1));
        Checks.due("taken out twice", 1, x.sync(0, 1));
        Checks.due("taken out twice", "0 2", Texts.order(x, 1));
        x.sync(1, 0);
        Checks.due("taken out twice", "0 2", Texts.order(x, 0));
    }

    private static void noteIsAtItsLine() {
        Sentences.name(PART, "A note is at the line to which it was moved with the greatest stamp, or for which it was made.");
        Used x = Texts.of("BBBB");
        x.note(0, 3, 1);
        Checks.due("for which it was made", 3, x.noteAt(0, 0));
        x.sync(0, 1);
        x.sync(0, 2);
        x.move(1, 0, 1);
        x.move(2, 0, 2);
        x.move(0, 0, 0);
        x.sync(2, 0);
        Checks.due("the greater one came", 2, x.noteAt(0, 0));
        x.sync(1, 0);
        Checks.due("the lesser one came later", 2, x.noteAt(0, 0));
        x.sync(1, 2);
        Checks.due("the lesser one came to the greater one", 2, x.noteAt(2, 0));
        x.move(1, 0, 3);
        x.sync(1, 2);
        Checks.due("the greatest, back to the first", 3, x.noteAt(2, 0));
    }

    private static void noteIsAtTheNearest() {
        Sentences.name(PART, "If that is not there, it is at the nearest line ahead of that, in the order of lines, that is there,");
        Used x = Texts.of("BBBBB");
        x.note(0, 3, 1);
        x.remove(0, 3);
        Checks.due("the one right ahead", 2, x.noteAt(0, 0));
        x.remove(0, 2);
        Checks.due("one further", 1, x.noteAt(0, 0));
        int between = x.insert(0, 2, 1, true);
        Checks.due("one that came between", between, x.noteAt(0, 0));
        x.insert(0, 3, 1, true);
        Checks.due("not the one right behind", between, x.noteAt(0, 0));
        x.remove(0, between);
        x.remove(0, 1);
        Checks.due("the first of all", 0, x.noteAt(0, 0));
        Checks.due("with its rows", 2, x.lineAt(0, 0, 2));
        x.move(0, 0, 4);
        x.remove(0, 4);
        Checks.due("ahead of where it was moved", 6, x.noteAt(0, 0));
    }

    private static void noteIsAtTheFirst() {
        Sentences.name(PART, "otherwise at the first one that is;");
        Used x = Texts.of("BBBB");
        x.note(0, 1, 2);
        x.remove(0, 1);
        x.remove(0, 0);
        Checks.due("none is ahead", 2, x.noteAt(0, 0));
        Checks.due("with its rows", "3 1", Texts.each(x, 0, 2));
        x.remove(0, 2);
        Checks.due("the first one that is there", 3, x.noteAt(0, 0));
        int ahead = x.insert(0, NONE, 1, true);
        Checks.due("one came ahead", ahead, x.noteAt(0, 0));
    }

    private static void noteIsNowhere() {
        Sentences.name(PART, "without lines it is nowhere.");
        Used x = Texts.of("B");
        x.note(0, 0, 3);
        x.sync(0, 1);
        x.remove(0, 0);
        Checks.due("nowhere", NONE, x.noteAt(0, 0));
        Checks.due("no page for its rows", 0, x.pages(0));
        Checks.due("where the line is there", 0, x.noteAt(1, 0));
        int behind = x.insert(0, 0, 1, true);
        Checks.due("somewhere again", behind, x.noteAt(0, 0));
        Checks.due("with its rows", 4, x.lineAt(0, 0, 2));
    }
}
