import java.util.ArrayList;
import java.util.Comparator;
import java.util.HashSet;
import java.util.List;
import java.util.NoSuchElementException;
import java.util.Set;

/** Long runs of calls beside a model that finds every answer anew from the deeds, as the document says it. */
public final class ModelTest {
    private static final int RUNS = 150;
    private static final int CALLS_OF_ALL_KINDS = 380;

    private long seed;

    private ModelTest(long seed) {
        this.seed = seed * 7919 + 17;
    }

    public static void main(String[] args) {
        int runs = args.length > 0 ? Integer.parseInt(args[0]) : RUNS;
        int wrong = 0;
        for (int run = 0; run < runs && wrong < 5; run++) {
            String fault = new ModelTest(run).run(run);
            Checks.due("run " + run, "", fault);
            wrong += fault.isEmpty() ? 0 : 1;
        }
        Checks.finish("ModelTest");
    }

    private int below(int bound) {
        seed = seed * 6364136223846793005L + 1442695040888963407L;
        return (int) ((seed >>> 33) % bound);
    }

    /** The calls up to the first wrong one; empty if there was none. */
    private String run(int run) {
        Used x = new Used();
        Model model = new Model();
        StringBuilder calls = new StringBuilder();
        int sites = 1 + run % 4;
        int deedsInHundred = 10 + (run / 4) % 5 * 20;
        for (int call = 0; call < Used.MOST_CALLS; call++) {
            int[] a = call < CALLS_OF_ALL_KINDS ? nextCall(kind(deedsInHundred), sites, model)
                    : nextCall(6 + below(10), 4, model);
            String want = Checks.outcome(() -> model.answer(a));
            String got = Checks.outcome(() -> called(x, a));
            calls.append(told(a)).append(" = ").append(got).append('\n');
            if (!want.equals(got)) {
                return calls.append("due is ").append(want).toString();
            }
        }
        return "";
    }

    private int kind(int deedsInHundred) {
        return below(100) < deedsInHundred ? deedKind() : 4 + below(12);
    }

    private int[] nextCall(int kind, int sites, Model model) {
        int site = below(60) == 0 ? 4 - 5 * below(2) : below(sites);
        int line = someNumber(model.lineCount);
        int note = someNumber(model.noteCount);
        switch (kind) {
            case 0: {
                int behind = below(3) == 0 ? Mergeparlour.NONE : line;
                return new int[] {0, site, behind, below(30) == 0 ? 100 - 101 * below(2) : below(100), below(2)};
            }
            case 1:
                return new int[] {1, site, line};
            case 2:
                return new int[] {2, site, line, below(20) == 0 ? 4 * below(2) : 1 + below(3)};
            case 3:
                return new int[] {3, site, note, line};
            case 4:
                return new int[] {4, site, below(60) == 0 ? 4 : below(sites)};
            case 7:
                return new int[] {7, below(2 * model.printed.size() + 2) - 1};
            case 10:
                return new int[] {10, site, someNumber(model.lineCount), below(40) == 0 ? 5 : below(5)};
            case 11:
                return new int[] {11, site, someNumber(model.lineCount)};
            case 12:
                return new int[] {12, site, note};
            case 14:
                return new int[] {14, site, below(10) - (below(20) == 0 ? 1 : 0)};
            default:
                return new int[] {kind, site};
        }
    }

    private int deedKind() {
        int[] kinds = {0, 0, 0, 0, 0, 0, 1, 1, 2, 2, 3, 3, 4, 4, 4, 5};
        return kinds[below(kinds.length)];
    }

    private int someNumber(int count) {
        if (below(40) == 0) {
            return below(2) == 0 ? -1 - below(3) : count + below(100);
        }
        return count == 0 ? 0 : below(count);
    }

    private static final String[] NAMES = {
        "insert", "remove", "note", "move", "sync", "print", "sheets", "differs", "cost", "lines", "lineAt",
        "lineAnew", "noteAt", "pages", "aheadAnew", "known",
    };

    private static String told(int[] a) {
        StringBuilder told = new StringBuilder(NAMES[a[0]]);
        for (int i = 1; i < a.length; i++) {
            told.append(' ').append(a[i]);
        }
        return told.toString();
    }

    private static Object called(Used x, int[] a) {
        switch (a[0]) {
            case 0: return x.insert(a[1], a[2], a[3], a[4] == 1);
            case 1: return x.remove(a[1], a[2]);
            case 2: return x.note(a[1], a[2], a[3]);
            case 3: return x.move(a[1], a[2], a[3]);
            case 4: return x.sync(a[1], a[2]);
            case 5: return x.print();
            case 6: return x.sheets();
            case 7: return x.differs(a[1]);
            case 8: return x.cost();
            case 9: return x.lines(a[1]);
            case 10: return x.lineAt(a[1], a[2], a[3]);
            case 11: return x.lineAnew(a[1], a[2]);
            case 12: return x.noteAt(a[1], a[2]);
            case 13: return x.pages(a[1]);
            case 14: return x.aheadAnew(a[1], a[2]);
            default: return x.known(a[1]);
        }
    }

    /** A deed with all that was told of it; target is the line behind which, or at which. */
    private record Deed(int kind, int clock, int site, int subject, int target, int number, boolean begins) {
    }

    private static final Comparator<Deed> BY_STAMP = Comparator.comparingInt(Deed::clock).thenComparingInt(Deed::site);

    /** A line as it stands on a page. */
    private record Printed(int line, int rows) {
    }

    private static final class Model {
        final List<List<Deed>> known = List.of(new ArrayList<>(), new ArrayList<>(), new ArrayList<>(), new ArrayList<>());
        final int[] clocks = new int[4];
        final List<List<Set<Printed>>> printed = new ArrayList<>();
        int deedCount = 0;
        int lineCount = 0;
        int noteCount = 0;

        Object answer(int[] a) {
            switch (a[0]) {
                case 0: return insert(a[1], a[2], a[3], a[4] == 1);
                case 1: return remove(a[1], a[2]);
                case 2: return note(a[1], a[2], a[3]);
                case 3: return move(a[1], a[2], a[3]);
                case 4: return sync(a[1], a[2]);
                case 5: return print();
                case 6: return printed.size();
                case 7: return differs(a[1]);
                case 8: return cost();
                case 9: return lines(site(a[1])).size();
                case 10: return lineAt(a[1], a[2], a[3]);
                case 11: return lineAt(a[1], a[2], 0);
                case 12: return noteAt(site(a[1]), noteKnown(a[1], a[2]));
                case 13: return pages(site(a[1])).size();
                case 14: return ahead(a[1], a[2]);
                default: return known.get(site(a[1])).size();
            }
        }

        private int site(int site) {
            check(site >= 0 && site < 4, new IndexOutOfBoundsException());
            return site;
        }

        private static void check(boolean fine, RuntimeException otherwise) {
            if (!fine) {
                throw otherwise;
            }
        }

        private Deed find(int site, int kind, int subject) {
            for (Deed deed : known.get(site)) {
                if (deed.kind == kind && deed.subject == subject) {
                    return deed;
                }
            }
            return null;
        }

        private int lineKnown(int site, int line) {
            check(find(site(site), 0, line) != null, new IndexOutOfBoundsException());
            return line;
        }

        private int noteKnown(int site, int note) {
            check(find(site(site), 2, note) != null, new IndexOutOfBoundsException());
            return note;
        }

        private void act(int site, int kind, int subject, int target, int number, boolean begins) {
            clocks[site]++;
            deedCount++;
            known.get(site).add(new Deed(kind, clocks[site], site, subject, target, number, begins));
        }

        private Object insert(int site, int behind, int value, boolean begins) {
            site(site);
            check(behind == -1 || lineKnown(site, behind) == behind, new IllegalStateException());
            check(value >= 0 && value <= 99, new IllegalArgumentException());
            check(deedCount < 90, new IllegalStateException());
            act(site, 0, lineCount, behind, value, begins);
            return lineCount++;
        }

        private Object remove(int site, int line) {
            lineKnown(site, line);
            check(lines(site).contains(line), new NoSuchElementException());
            check(deedCount < 90, new IllegalStateException());
            act(site, 1, line, 0, 0, false);
            return lines(site).size();
        }

        private Object note(int site, int line, int rows) {
            lineKnown(site, line);
            check(rows >= 1 && rows <= 3, new IllegalArgumentException());
            check(lines(site).contains(line), new NoSuchElementException());
            check(deedCount < 90, new IllegalStateException());
            act(site, 2, noteCount, line, rows, false);
            return noteCount++;
        }

        private Object move(int site, int note, int line) {
            noteKnown(site, note);
            lineKnown(site, line);
            check(lines(site).contains(line), new NoSuchElementException());
            check(deedCount < 90, new IllegalStateException());
            act(site, 3, note, line, 0, false);
            return "moved";
        }

        private Object sync(int from, int to) {
            site(from);
            site(to);
            List<Deed> missing = new ArrayList<>(known.get(from));
            missing.removeAll(known.get(to));
            known.get(to).addAll(missing);
            clocks[to] = Math.max(clocks[to], clocks[from]);
            return missing.size();
        }

        /** All lines that a site knows, those that are taken out with them. */
        private List<Integer> order(int site) {
            List<Deed> puts = new ArrayList<>();
            for (Deed deed : known.get(site)) {
                if (deed.kind == 0) {
                    puts.add(deed);
                }
            }
            puts.sort(BY_STAMP.reversed());
            List<Integer> order = new ArrayList<>();
            walk(-1, puts, order);
            return order;
        }

        private void walk(int behind, List<Deed> puts, List<Integer> order) {
            for (Deed put : puts) {
                if (put.target == behind) {
                    order.add(put.subject);
                    walk(put.subject, puts, order);
                }
            }
        }

        private List<Integer> lines(int site) {
            List<Integer> there = order(site);
            there.removeIf(line -> find(site, 1, line) != null);
            return there;
        }

        private int noteAt(int site, int note) {
            Deed last = find(site, 2, note);
            for (Deed deed : known.get(site)) {
                if (deed.kind == 3 && deed.subject == note && BY_STAMP.compare(deed, last) > 0) {
                    last = deed;
                }
            }
            List<Integer> all = order(site);
            List<Integer> there = lines(site);
            List<Integer> ahead = new ArrayList<>(all.subList(0, all.indexOf(last.target) + 1));
            ahead.retainAll(there);
            if (!ahead.isEmpty()) {
                return ahead.get(ahead.size() - 1);
            }
            return there.isEmpty() ? -1 : there.get(0);
        }

        private int[] rows(int site, List<Integer> there) {
            int[] rows = new int[there.size()];
            java.util.Arrays.fill(rows, 1);
            for (Deed deed : known.get(site)) {
                int place = deed.kind == 2 ? there.indexOf(noteAt(site, deed.subject)) : -1;
                if (place >= 0) {
                    rows[place] += deed.number;
                }
            }
            for (int place = 0; place < rows.length; place++) {
                rows[place] = Math.min(6, rows[place]);
            }
            return rows;
        }

        private boolean[] begins(int site, List<Integer> there) {
            boolean[] begins = new boolean[there.size()];
            for (int place = 0; place < begins.length; place++) {
                begins[place] = place == 0 || find(site, 0, there.get(place)).begins;
            }
            return begins;
        }

        private static boolean bad(boolean[] begins, int cut) {
            boolean orphan = begins[cut - 1] && !begins[cut];
            boolean widow = !begins[cut] && (cut == begins.length - 1 || begins[cut + 1]);
            return orphan || widow;
        }

        private List<List<Printed>> pages(int site) {
            List<Integer> there = lines(site);
            int[] rows = rows(site, there);
            boolean[] begins = begins(site, there);
            List<List<Printed>> pages = new ArrayList<>();
            int first = 0;
            while (first < rows.length) {
                int end = first;
                int sum = 0;
                while (end < rows.length && sum + rows[end] <= 6) {
                    sum += rows[end];
                    end++;
                }
                int cut = end;
                while (cut < rows.length && cut > first && bad(begins, cut)) {
                    cut--;
                }
                end = cut == first ? end : cut;
                List<Printed> page = new ArrayList<>();
                for (int place = first; place < end; place++) {
                    page.add(new Printed(there.get(place), rows[place]));
                }
                pages.add(page);
                first = end;
            }
            return pages;
        }

        private Object lineAt(int site, int place, int what) {
            site(site);
            check(place >= 0, new IndexOutOfBoundsException());
            check(what >= 0 && what <= 4, new IllegalArgumentException());
            List<Integer> there = lines(site);
            if (place >= there.size()) {
                return -1;
            }
            if (what == 0) {
                return there.get(place);
            }
            if (what == 1) {
                return find(site, 0, there.get(place)).number;
            }
            if (what == 2) {
                return rows(site, there)[place];
            }
            return what == 3 ? (begins(site, there)[place] ? 1 : 0) : pageOf(site, place);
        }

        private int pageOf(int site, int place) {
            int page = 0;
            int ahead = 0;
            for (List<Printed> lines : pages(site)) {
                ahead += lines.size();
                if (place < ahead) {
                    return page;
                }
                page++;
            }
            return -1;
        }

        private Object ahead(int site, int page) {
            site(site);
            check(page >= 0, new IndexOutOfBoundsException());
            List<List<Printed>> pages = pages(site);
            int ahead = 0;
            for (int i = 0; i < page && i < pages.size(); i++) {
                ahead += pages.get(i).size();
            }
            return ahead;
        }

        private Set<Printed> pageNow(int page) {
            List<List<Printed>> pages = pages(0);
            return page < pages.size() ? new HashSet<>(pages.get(page)) : new HashSet<>();
        }

        private Object print() {
            int page = 2 * printed.size();
            check(page < pages(0).size(), new IllegalStateException());
            printed.add(List.of(pageNow(page), pageNow(page + 1)));
            return pageNow(page).size() + pageNow(page + 1).size();
        }

        private int differs(int page) {
            check(page >= 0 && page < 2 * printed.size(), new IndexOutOfBoundsException());
            Set<Printed> then = printed.get(page / 2).get(page % 2);
            Set<Printed> now = pageNow(page);
            Set<Printed> gone = new HashSet<>(then);
            gone.removeAll(now);
            Set<Printed> come = new HashSet<>(now);
            come.removeAll(then);
            return gone.size() + come.size();
        }

        private int cost() {
            int cost = 0;
            for (int sheet = 0; sheet < printed.size(); sheet++) {
                int slips = 0;
                for (int page = 2 * sheet; page < 2 * sheet + 2; page++) {
                    slips += differs(page) > 0 ? 1 + differs(page) : 0;
                }
                cost += Math.min(10, slips);
            }
            return cost;
        }
    }
}
