/** All that an object answers, as one text. */
final class Snapshot {
    private static final int SITES = 4;
    private static final int MOST = 90;

    private Snapshot() {
    }

    static String of(Mergeparlour x) {
        StringBuilder all = new StringBuilder();
        for (int site = 0; site < SITES; site++) {
            tellSite(x, site, all);
        }
        all.append("sheets ").append(x.sheets()).append(" cost ").append(x.cost()).append('\n');
        for (int page = 0; page < 2 * x.sheets(); page++) {
            all.append(x.differs(page)).append(' ');
        }
        return all.toString();
    }

    private static void tellSite(Mergeparlour x, int site, StringBuilder all) {
        all.append("site ").append(site).append(" known ").append(x.known(site));
        all.append(" lines ").append(x.lines(site)).append(" pages ").append(x.pages(site)).append('\n');
        for (int place = 0; place <= x.lines(site); place++) {
            for (int what = 0; what <= 4; what++) {
                all.append(x.lineAt(site, place, what)).append(' ');
            }
            all.append(x.lineAnew(site, place)).append('\n');
        }
        for (int page = 0; page <= x.pages(site) + 1; page++) {
            all.append(x.aheadAnew(site, page)).append(' ');
        }
        for (int note = 0; note < MOST; note++) {
            int asked = note;
            all.append(Checks.outcome(() -> x.noteAt(site, asked))).append(' ');
        }
        all.append('\n');
    }
}
