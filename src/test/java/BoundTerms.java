import java.util.function.Supplier;
import java.util.function.ToLongFunction;

/** The boundaries that the document tells of all calls: refusals, faults, sets, shares, how long an object lasts. */
final class BoundTerms {
    private static final int[] ARGUMENTS = {Bound.LEAST, -101, -10, -9, -2, -1, 0, 1, 2, 3, 4, 6, 7, 8, 10, 37, 50, 51,
        99, 100, Bound.MOST};
    private final Bound b;

    private BoundTerms(Bound b) {
        this.b = b;
    }

    static void run(Bound bound) {
        BoundTerms t = new BoundTerms(bound);
        t.refusalsInTheOrderTold();
        t.refusalsChangeNothing();
        t.nothingIsThere();
        t.ofAnotherLaneOrKind();
        t.indexOfNone();
        t.lengthBelowZero();
        t.theFirstFaultThatIsComeTo();
        t.noneIsMinusNine();
        t.setsAsBits();
        t.sharesInLeastTerms();
        t.laterCallsAreFree();
    }

    private void refusalsInTheOrderTold() {
        b.sentence(Document.TERMS, "REFUSALS, in the order in which a call's line tells them: UNKNOWN"
            + " (there is no such PERSON, EDGE, SHEET, place of a row), OUTSIDE (another number is not as told), STATE (as told), FULL;");
        OneWire x = Bound.full();
        b.due("wire", x.wire(4, 3, -1, -1), -1);
        b.due("wire", x.wire(3, 3, -1, -1), -2);
        b.due("ofPerson", x.ofPerson(3, 4), -1);
        b.due("wish", x.wish(3, 4), -1);
        b.due("news", x.news(0, 100, 3, 2), -1);
        b.due("said", x.said(0, 1, 100, -2), -1);
        b.due("order", x.order(4, 3, -1, -1, 2), -1);
        b.due("order", x.order(3, 0, -1, -1, 2), -2);
        b.due("letters", new OneWire().letters(-2), -1);
        b.due("stand", new OneWire().stand(11), -2);
        b.due("reading", x.reading(3, 100, 0, 100), -1);
        b.due("reading", x.reading(0, 100, 0, 0), -2);
        b.due("reading", x.reading(0, 0, 0, 0), -4);
        b.due("sheet", x.sheet(4, 3, 51), -1);
        b.due("as", x.as(3, 3), -1);
        b.due("cut", Bound.loop().cut(4), -1);
        b.due("cut", Bound.loop().cut(3), -3);
    }

    private void refusalsChangeNothing() {
        b.sentence(Document.TERMS, "they change nothing (but fault(), of a call that names FAULTS).");
        Supplier<OneWire> made = Bound::full;
        b.nothingDone("wire", made, x -> x.wire(4, 0, 0, 0), -1, 0);
        b.nothingDone("order", made, x -> x.order(0, 0, 0, 2, 0), -2, 0);
        b.nothingDone("sheet", made, x -> x.sheet(0, 0, 51), -2, 0);
        b.nothingDone("put", made, x -> x.put(4, 0, 0), -1, 0);
        b.nothingDone("cell", made, x -> x.cell(4, 0, 0), OneWire.LOST, 0);
        b.nothingDone("copy", made, x -> x.copy(4, 0, 0, 0, 0), -1, 0);
        b.nothingDone("as", made, x -> x.as(3, 0), -1, 0);
        b.refused("ofPerson", made, x -> x.ofPerson(3, 0), -1);
        b.refused("grudge", made, x -> x.grudge(2, true), -1);
        b.refused("hand", made, x -> x.hand(1), -3);
        b.refused("wish", made, x -> x.wish(0, 4), -2);
        b.refused("news", made, x -> x.news(0, 100, 0, 0), -2);
        b.refused("said", made, x -> x.said(0, 0, 100, 0), -2);
        b.refused("cut", Bound::loop, x -> x.cut(0), -3);
        b.refused("letters", made, x -> x.letters(3), -1);
        b.refused("heard", made, x -> x.heard(3, 0, 0), OneWire.LOST);
        b.refused("stand", made, x -> x.stand(11), -2);
        b.refused("reading", made, x -> x.reading(0, 0, 0, 0), -4);
        b.refused("back", made, x -> x.back(9), -2);
        b.refused("kinds", made, x -> x.kinds(3), -1);
        b.refused("lose", made, x -> x.lose(4), -1);
        b.refused("tell", made, x -> x.tell(3), -1);
        b.refused("lean", made, x -> x.lean(3), -1);
        b.refused("many", made, x -> x.many(5), -2);
        b.refused("fewest", Bound::nothing, OneWire::fewest, -3);
        b.refused("soonest", Bound::nothing, OneWire::soonest, -3);
        b.refused("coming", Bound::nothing, OneWire::coming, -3);
        b.refused("walls", Bound::nothing, OneWire::walls, -3);
    }

    private void nothingIsThere() {
        b.sentence(Document.TERMS, "FAULTS are the machine's: 1 NULL (there is nothing)");
        b.nothingDone("wire", Bound::line, x -> x.wire(3, 0, 0, 0), -11, 1);
        b.nothingDone("order", Bound::line, x -> x.order(3, 0, 0, 3, 0), -11, 1);
        b.nothingDone("put", Bound::line, x -> x.put(3, 0, 0), -11, 1);
        b.nothingDone("cell", Bound::line, x -> x.cell(3, 0, 0), OneWire.LOST, 1);
        b.nothingDone("copy", Bound::line, x -> x.copy(3, 0, 0, 0, 0), -11, 1);
        b.nothingDone("a row of none is something", Bound::line, x -> x.put(2, 0, 0), -13, 3);
    }

    private void ofAnotherLaneOrKind() {
        b.sentence(Document.TERMS, "2 CAST (it is of another lane, kind)");
        b.nothingDone("wire", Bound::line, x -> x.wire(0, 1, 0, 0), -12, 2);
        b.nothingDone("order", Bound::line, x -> x.order(0, 2, 0, 3, 0), -12, 2);
        b.nothingDone("cell", Bound::line, x -> x.cell(0, 0, 2), OneWire.LOST, 2);
        b.nothingDone("copy", Bound::line, x -> x.copy(0, 0, 1, 0, 1), -12, 2);
        b.nothingDone("as", Bound::line, x -> x.as(0, 1), -12, 2);
    }

    private void indexOfNone() {
        b.sentence(Document.TERMS, "3 INDEX (of cells from i on also where i is not 0 .. how many there are, if none of them is taken, too)");
        int[] beside = {-1, 4, Bound.LEAST, Bound.MOST};
        for (int i : beside) {
            b.nothingDone("wire " + i, Bound::line, x -> x.wire(0, 0, i, 0), -13, 3);
            b.nothingDone("order " + i, Bound::line, x -> x.order(0, 0, i, 0, 0), -13, 3);
            b.nothingDone("copy from " + i, Bound::line, x -> x.copy(0, i, 0, 0, 0), -13, 3);
            b.nothingDone("copy to " + i, Bound::line, x -> x.copy(0, 0, 0, i, 0), -13, 3);
        }
        for (int i = 0; i <= 3; i++) {
            int at = i;
            b.nothingDone("wire " + i, Bound::line, x -> x.wire(0, 0, at, 0), -100, 0);
            b.nothingDone("order " + i, Bound::line, x -> x.order(0, 0, at, 0, 0), -2, 0);
            b.nothingDone("copy from " + i, Bound::line, x -> x.copy(0, at, 0, 0, 0), 0, 0);
            b.nothingDone("copy to " + i, Bound::line, x -> x.copy(0, 0, 0, at, 0), 0, 0);
        }
        b.nothingDone("a row of none", Bound::line, x -> x.wire(2, 2, 0, 0), -100, 0);
        b.nothingDone("beyond a row of none", Bound::line, x -> x.wire(2, 2, 1, 0), -13, 3);
    }

    private void lengthBelowZero() {
        b.sentence(Document.TERMS, "4 SIZE (a length below 0).");
        int[] lengths = {-1, Bound.LEAST};
        for (int n : lengths) {
            b.nothingDone("wire " + n, Bound::line, x -> x.wire(0, 0, 0, n), -14, 4);
            b.nothingDone("order " + n, Bound::line, x -> x.order(0, 0, 0, n, 0), -14, 4);
            b.nothingDone("sheet " + n, Bound::line, x -> x.sheet(0, 0, n), -14, 4);
            b.nothingDone("a copy's is an index " + n, Bound::line, x -> x.copy(0, 0, 0, 0, n), -13, 3);
        }
    }

    private void theFirstFaultThatIsComeTo() {
        b.sentence(Document.TERMS, "Of a call the first that is come to, in the order told; it answers -10 less it"
            + " (LOST, where a long is answered, as for refusals) and changes nothing; fault() tells it.");
        b.nothingDone("wire: cast, size", Bound::line, x -> x.wire(0, 1, 9, -1), -12, 2);
        b.nothingDone("wire: null, size", Bound::line, x -> x.wire(3, 1, 9, -1), -11, 1);
        b.nothingDone("wire: size, index", Bound::line, x -> x.wire(0, 0, 9, -1), -14, 4);
        b.nothingDone("wire: index, first fault", Bound::line, x -> x.wire(0, 0, 0, 4), -13, 3);
        b.nothingDone("order: cast, size", Bound::line, x -> x.order(0, 1, 9, -1, 0), -12, 2);
        b.nothingDone("order: null, size", Bound::line, x -> x.order(3, 1, 9, -1, 0), -11, 1);
        b.nothingDone("order: size, index", Bound::line, x -> x.order(0, 0, 9, -1, 0), -14, 4);
        b.nothingDone("order: index, how many", Bound::line, x -> x.order(0, 0, 0, 4, 0), -13, 3);
        b.nothingDone("put: null, index", Bound::line, x -> x.put(3, -1, 0), -11, 1);
        b.nothingDone("cell: cast, index", Bound::line, x -> x.cell(0, 9, 1), OneWire.LOST, 2);
        b.nothingDone("cell: null, index", Bound::line, x -> x.cell(3, 9, 1), OneWire.LOST, 1);
        b.nothingDone("copy: null, index", Bound::line, x -> x.copy(0, 9, 3, 9, -1), -11, 1);
        b.nothingDone("copy: cast, index", Bound::line, x -> x.copy(0, 9, 1, 9, -1), -12, 2);
        b.due("a lost one names its number", OneWire.LOST, Long.MIN_VALUE);
    }

    private void noneIsMinusNine() {
        b.sentence(Document.TERMS, "NONE is -9.");
        OneWire x = Bound.line();
        b.due("news", x.news(0, 0, 2, 0), -9);
        b.due("said", x.said(0, 2, 0, 0), -9);
        b.due("fewest", x.fewest(), -9);
        b.due("soonest", x.soonest(), -9);
        b.due("letters", x.letters(-1), -9);
        b.due("reading", x.reading(0, 0, 2, -9), 1);
        b.due("the constant", OneWire.NONE, -9);
    }

    private void setsAsBits() {
        b.sentence(Document.TERMS, "Sets are told as bits (bit k for number k).");
        OneWire x = Check.made(Bound.text(false, 7));
        b.due("edges 0 .. 5", x.walls(), 63);
        x.reading(5, 0, 6, -9);
        b.due("edge 5", x.walls(), 32);
        b.due("no kind", x.kinds(0), 0);
        x.back(1);
        b.due("kinds 0 .. 2", x.kinds(6), 7);
        b.due("a loop's edges 0 .. 6", Check.made(Bound.text(true, 7)).walls(), 127);
    }

    private void sharesInLeastTerms() {
        b.sentence(Document.TERMS, "Shares are told as upper and lower number (above 0) in least terms.");
        for (int persons = 2; persons <= 7; persons++) {
            for (int loop = 0; loop < 2; loop++) {
                OneWire x = Check.made(Bound.text(loop == 1, persons));
                for (int g = 0; g <= 10; g++) {
                    long upper = x.heard(0, g, 0);
                    long lower = x.heard(0, g, 1);
                    b.due("upper is not below 0", upper >= 0 ? 1 : 0, 1);
                    b.due("lower is above 0", lower > 0 ? 1 : 0, 1);
                    b.due("no common part 2", upper % 2 == 0 && lower % 2 == 0 ? 1 : 0, 0);
                    b.due("no common part 5", upper % 5 == 0 && lower % 5 == 0 ? 1 : 0, 0);
                    b.due("parts of tens", 10_000_000 % lower, 0);
                }
                b.due("none: 0", x.heard(0, 10, 0), 0);
                b.due("of 1", x.heard(0, 10, 1), 1);
            }
        }
    }

    /** Each call by four numbers, whatever they are. */
    private static ToLongFunction<int[]> all(OneWire x) {
        return a -> x.wire(a[0], a[1], a[2], a[3]) + x.ofPerson(a[0], a[1]) + x.grudge(a[0], a[1] > 2) + x.hand(a[0])
            + x.wish(a[0], a[1]) + x.news(a[0], a[1], a[2], a[3]) + x.said(a[0], a[1], a[2], a[3]) + x.fewest()
            + x.soonest() + x.cut(a[0]) + x.order(a[0], a[1], a[2], a[3], a[0]) + x.coming() + x.letters(a[0])
            + x.heard(a[0], a[1], a[2]) + x.stand(a[0]) + x.reading(a[0], a[1], a[2], a[3]) + x.back(a[0])
            + x.kinds(a[0]) + x.walls() + x.sheet(a[0], a[1], a[2]) + x.put(a[0], a[1], a[2]) + x.cell(a[0], a[1], a[2])
            + x.copy(a[0], a[1], a[2], a[3], a[1]) + x.tell(a[0]) + x.lean(a[0]) + x.as(a[0], a[1]) + x.lose(a[3])
            + x.trace() + x.fault() + x.many(a[0]);
    }

    private void laterCallsAreFree() {
        b.sentence(Document.ABOUT, "An object is used for at most 512 calls after it has been made; what later calls answer is free.");
        // Free is what they answer; but no call may throw, whatever its numbers are.
        int n = ARGUMENTS.length;
        int thrown = 0;
        OneWire[] objects = {Bound.nothing(), Bound.line(), Bound.loop(), Bound.full(), Check.made(Bound.text(true, 7))};
        for (OneWire x : objects) {
            for (int k = 0; k < 3000; k++) {
                int[] a = {ARGUMENTS[k % n], ARGUMENTS[k / 3 % n], ARGUMENTS[k / 7 % n], ARGUMENTS[k * 5 / 11 % n]};
                thrown += throwsBy(x, a) ? 1 : 0;
            }
        }
        b.due("calls that throw", thrown, 0);
    }

    private static boolean throwsBy(OneWire x, int[] arguments) {
        try {
            all(x).applyAsLong(arguments);
            return false;
        } catch (RuntimeException thrown) {
            return true;
        }
    }
}
