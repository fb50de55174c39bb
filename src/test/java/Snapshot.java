/** All that an object of few lines and notes answers, as one text. */
final class Snapshot {
    private static final int SITES = 4;
    private static final int NOTES = 6;
    private static final int TURNS = 4;

    private Snapshot() {
    }

    static String of(Used x) {
        StringBuilder all = new StringBuilder();
        for (int site = 0; site < SITES; site++) {
            tellSite(x, site, all);
        }
        tellPress(x, all);
        return all.toString();
    }

    /**
     * What an object answers when it is used on: the clocks, the numbers to come and the room for deeds can't be
     * asked for, but the order of lines that are put in first at all sites in turn shows the clocks.
     */
    static String ofLater(Used x) {
        StringBuilder all = new StringBuilder();
        for (int turn = 0; turn < TURNS * SITES; turn++) {
            int site = turn % SITES;
            all.append(Checks.outcome(() -> x.insert(site, Mergeparlour.NONE, site, true))).append(' ');
        }
        all.append(Checks.outcome(() -> x.note(0, x.lineAt(0, 0, 0), 1))).append(' ');
        all.append(Checks.outcome(() -> x.move(0, 0, x.lineAt(0, 1, 0)))).append(' ');
        for (int site = 1; site < SITES; site++) {
            all.append(x.sync(site, 0)).append(' ');
        }
        for (int site = 1; site < SITES; site++) {
            all.append(x.sync(0, site)).append(' ').append(x.lines(site)).append(' ');
        }
        all.append(Checks.outcome(() -> x.print())).append('\n');
        tellSite(x, 0, all);
        tellPress(x, all);
        return all.toString();
    }

    private static void tellSite(Used x, int site, StringBuilder all) {
        all.append("site ").append(site).append(" known ").append(x.known(site));
        int lines = x.lines(site);
        int pages = x.pages(site);
        all.append(" lines ").append(lines).append(" pages ").append(pages).append('\n');
        for (int place = 0; place <= lines; place++) {
            for (int what = 0; what <= 4; what++) {
                all.append(x.lineAt(site, place, what)).append(' ');
            }
            all.append(x.lineAnew(site, place)).append('\n');
        }
        for (int page = 0; page <= pages + 1; page++) {
            all.append(x.aheadAnew(site, page)).append(' ');
        }
        for (int note = 0; note < NOTES; note++) {
            int asked = note;
            all.append(Checks.outcome(() -> x.noteAt(site, asked))).append(' ');
        }
        all.append('\n');
    }

    private static void tellPress(Used x, StringBuilder all) {
        int sheets = x.sheets();
        all.append("sheets ").append(sheets).append(" cost ").append(x.cost()).append('\n');
        for (int page = 0; page <= 2 * sheets; page++) {
            int asked = page;
            all.append(Checks.outcome(() -> x.differs(asked))).append(' ');
        }
        all.append('\n');
    }
}
