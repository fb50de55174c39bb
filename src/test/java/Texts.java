/** Makes texts to be tested, and tells them in short. */
final class Texts {
    static final int NONE = Mergeparlour.NONE;
    static final int MIN = Integer.MIN_VALUE;
    static final int MAX = Integer.MAX_VALUE;
    static final int SITES = 4;
    static final int MOST_DEEDS = 90;

    private Texts() {
    }

    /** Numbers that are no site: right beside the least and the greatest one, and as far off as can be. */
    static int[] noSites() {
        return new int[] {-1, 4, 5, MIN, MAX};
    }

    static int[] belowNought() {
        return new int[] {-1, -2, MIN};
    }

    /** One line a letter, at site 0, each behind the one before: B begins a paragraph, n does not. */
    static Used of(String letters) {
        Used x = new Used();
        add(x, letters);
        return x;
    }

    /** The same, with notes, so that each line takes as many rows as the digit tells. */
    static Used of(String letters, String rows) {
        Used x = of(letters);
        for (int line = 0; line < rows.length(); line++) {
            for (int wanted = rows.charAt(line) - '1'; wanted > 0; wanted -= 3) {
                x.note(0, line, Math.min(wanted, 3));
            }
        }
        return x;
    }

    private static void add(Used x, String letters) {
        for (int line = 0; line < letters.length(); line++) {
            x.insert(0, line - 1, line, letters.charAt(line) == 'B');
        }
    }

    /** A line, and its note that is moved to it again until there are so many deeds. */
    static Used withDeeds(int deeds) {
        Used x = of("BB");
        x.note(0, 0, 1);
        x.remove(0, 1);
        for (int deed = x.known(0); deed < deeds; deed++) {
            x.move(0, 0, 0);
        }
        return x;
    }

    /**
     * Site 0 knows line 0, which begins a paragraph, line 1, which it took out, line 2, and note 0 of line 0, and
     * printed a sheet; sites 2 and 3 know the same; site 1 alone knows line 3 and note 1 of it. No clock is far
     * from the others, and there is room for just 18 deeds more.
     */
    static Used mixed() {
        Used x = of("Bnn");
        x.note(0, 0, 2);
        x.remove(0, 1);
        x.sync(0, 2);
        x.sync(0, 3);
        x.insert(1, NONE, 9, true);
        x.note(1, 3, 1);
        for (int turn = 0; turn < 65; turn++) {
            int site = turn % SITES;
            x.move(site, site == 1 ? 1 : 0, site == 1 ? 3 : 0);
        }
        x.print();
        return x;
    }

    /** No room for deeds: line 0 is there, line 1 was taken out, note 0 is at line 0, all at site 0 alone. */
    static Used full() {
        return withDeeds(MOST_DEEDS);
    }

    /** The lines that are there, as lineAt tells them; lineAnew is to tell the same. */
    static String order(Used x, int site) {
        StringBuilder order = new StringBuilder();
        StringBuilder anew = new StringBuilder();
        int lines = x.lines(site);
        for (int place = 0; place < lines; place++) {
            order.append(x.lineAt(site, place, 0)).append(' ');
            anew.append(x.lineAnew(site, place)).append(' ');
        }
        Checks.due("lineAnew orders as lineAt", order.toString(), anew.toString());
        return order.toString().trim();
    }

    /** What lineAt tells of each line that is there. */
    static String each(Used x, int site, int what) {
        StringBuilder each = new StringBuilder();
        int lines = x.lines(site);
        for (int place = 0; place < lines; place++) {
            each.append(x.lineAt(site, place, what)).append(' ');
        }
        return each.toString().trim();
    }

    /** How many lines each page has, as lineAt tells their pages; aheadAnew is to tell the same. */
    static String cut(Used x, int site) {
        int pages = x.pages(site);
        int lines = x.lines(site);
        int[] sizes = new int[pages];
        for (int place = 0; place < lines; place++) {
            sizes[x.lineAt(site, place, 4)]++;
        }
        StringBuilder cut = new StringBuilder();
        int ahead = 0;
        for (int page = 0; page < pages; page++) {
            Checks.due("aheadAnew cuts as pages, page " + page, ahead, x.aheadAnew(site, page));
            ahead += sizes[page];
            cut.append(sizes[page]).append(' ');
        }
        Checks.due("aheadAnew cuts as pages, to the end", ahead, x.aheadAnew(site, pages));
        return cut.toString().trim();
    }

    static void syncAll(Used x) {
        for (int site = 1; site < SITES; site++) {
            x.sync(site, 0);
        }
        for (int site = 1; site < SITES; site++) {
            x.sync(0, site);
        }
    }
}
