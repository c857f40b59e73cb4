import java.util.function.Supplier;
import java.util.function.ToLongFunction;

/** What the tests of the document's boundaries have in common. */
final class Bound {
    /** fault() stays what it was. */
    static final int STAYS = -1;
    static final int LEAST = Integer.MIN_VALUE, MOST = Integer.MAX_VALUE;
    static final int[] NO_SHEETS = {-1, 4, LEAST, MOST}, NO_LANES = {-1, 3, LEAST, MOST};

    private final Check check;
    private final Document document;
    private String sentence = "";

    Bound(Check check, Document document) {
        this.check = check;
        this.document = document;
    }

    /** The sentence that is tested next; it must stand in the document. */
    void sentence(int section, String words) {
        sentence = "[" + section + ": " + words + "] ";
        if (document != null) {
            check.that(sentence + "stands in the document", document.quote(section, words));
        }
    }

    void due(String call, long got, long want) {
        check.due(sentence + call, got, want);
    }

    /** A call that is refused, or meets a fault: its answer, fault() behind it, and all else as it was. */
    void nothingDone(String call, Supplier<OneWire> made, ToLongFunction<OneWire> asked, long answer, int fault) {
        OneWire x = made.get();
        int was = x.fault();
        due(call, asked.applyAsLong(x), answer);
        due(call + ": fault", x.fault(), fault == STAYS ? was : fault);
        check.that(sentence + call + ": changes nothing", Seen.of(x).equals(Seen.of(made.get())));
    }

    /** A refusal of a call that names no faults. */
    void refused(String call, Supplier<OneWire> made, ToLongFunction<OneWire> asked, long answer) {
        nothingDone(call, made, asked, answer, STAYS);
    }

    /** No WIRE, no SHEETS; the latest fault is NULL. */
    static OneWire nothing() {
        OneWire x = new OneWire();
        x.put(0, 0, 0);
        return x;
    }

    /** A line of three with a grudge on edge 1, a reading, a trace, and rows. */
    static OneWire line() {
        return furnished("w0;p301;g412;t523");
    }

    /** A loop of four, otherwise as line(). */
    static OneWire loop() {
        return furnished("w1;g301;p412;t523;p230");
    }

    /** A line that has as many readings as there may be. */
    static OneWire full() {
        OneWire x = line();
        for (int k = x.many(3); k < 8; k++) {
            x.reading(0, k, 1, k);
        }
        return x;
    }

    /** SHEETS: 0 three bytes, 1 two shorts, 2 a row of no ints, 3 nothing; the latest fault is INDEX. */
    private static OneWire furnished(String text) {
        OneWire x = Check.made(text);
        x.grudge(1, true);
        x.reading(0, 7, 1, 7);
        x.tell(2);
        x.lose(3);
        Check.row(x, 0, 0, 1, 2, 3);
        Check.row(x, 1, 1, 4, 5);
        x.sheet(2, 2, 0);
        x.put(0, 3, 0);
        return x;
    }

    /** A text of so many persons. */
    static String text(boolean loop, int persons) {
        return (loop ? "w1" : "w0") + ";p000".repeat(persons);
    }

    /** Numbers that are not 0 .. below n: the nearest ones and the farthest ones. */
    static int[] beside(int n) {
        return new int[] {-1, n, LEAST, MOST};
    }
}
