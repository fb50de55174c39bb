import java.io.IOException;
import java.nio.file.Path;

/** Each sentence of the document that binds, with its boundary cases; the document's path is the argument. */
public final class SentenceTest {
    public static void main(String[] args) throws IOException {
        Sentences.read(Path.of(args[0]));
        anObjectIsUsed();
        SiteSentences.check();
        PageSentences.check();
        PressSentences.check();
        PromiseSentences.check();
        RefusalSentences.check();
        for (int promise = 1; promise <= 17; promise++) {
            Sentences.checkNoneIsLeft("Promise " + promise);
        }
        Checks.finish("SentenceTest");
    }

    /** All deeds, then questions up to the last call, with what is refused among them. */
    private static void anObjectIsUsed() {
        Sentences.name("What it is", "An object is used for at most 512 calls after it has been made;");
        Used x = Texts.of("B".repeat(60), "4".repeat(30));
        x.sync(0, 1);
        while (x.callsLeft() > 8) {
            Checks.due("lines", 60, x.lines(1));
            Checks.fails("no room", Refused.STATE, () -> x.insert(1, 59, 1, true));
            Checks.due("the last place", 59, x.lineAt(1, 59, 0));
            Checks.due("the last place", 59, x.lineAnew(1, 59));
            Checks.due("29 pages of one line, and one of three", 32, x.aheadAnew(1, 30));
        }
        while (x.callsLeft() > 1) {
            Checks.due("pages", 35, x.pages(1));
        }
        Checks.due("the 512th call prints", 2, x.print());
    }
}
