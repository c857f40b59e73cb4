import java.io.IOException;
import java.util.regex.Pattern;

/**
 * Each sentence of the document that names a boundary (too small, too large, empty, full, a
 * wrap-around, a refused call) has a test of its own, which quotes it; none of them is left out.
 */
final class BoundariesTest {
    private static final int PROMISES = 31;
    /** What a sentence says, if it names a boundary. */
    private static final Pattern NAMED = Pattern.compile(
        "UNKNOWN|OUTSIDE|STATE|FULL|NONE|LOST|NULL|CAST|INDEX|SIZE|\\bnone\\b|\\.\\.|at most|at first|already|wraps|cut to"
        + "|below|beyond|above|twice|can't|there is no|too soon|fewer|nothing|it was so|as it is|of several|the least|least terms"
        + "|by 100|anew|shorter|what is left|if it is so|if they had|no less|eighth|ahead of any|refused|never|the first");

    private BoundariesTest() {
    }

    public static void main(String[] args) throws IOException {
        Check check = new Check();
        Document document = Document.read();
        Bound bound = new Bound(check, document);
        BoundTerms.run(bound);
        BoundWire.run(bound);
        BoundNews.run(bound);
        BoundGoods.run(bound);
        BoundOrders.run(bound);
        BoundHearing.run(bound);
        BoundSheets.run(bound);
        if (document != null) {
            noneIsLeftOut(check, document);
        }
        check.end();
    }

    private static void noneIsLeftOut(Check check, Document document) {
        for (int section = Document.ABOUT; section <= PROMISES; section++) {
            for (String bare : document.notQuoted(section, NAMED)) {
                check.that("a test quotes [" + section + ": .." + bare + "..]", false);
            }
        }
    }
}
