import java.util.Arrays;
import java.util.function.Supplier;

/** The boundaries of part 4 and of promises 12 to 14: orders, and weddings. */
final class BoundOrders {
    private final Bound b;

    private BoundOrders(Bound b) {
        this.b = b;
    }

    static void run(Bound bound) {
        BoundOrders t = new BoundOrders(bound);
        t.noLoopAndNoGrudges();
        t.strengthsNoLess();
        t.noChangeAndAllChanges();
        t.theLeastBar();
        t.oneOrderAndAllOrders();
        t.cannotCome();
        t.refusalsOfSheetAndLane();
        t.faultsOfOrder();
        t.refusalsBehindTheFaults();
        t.comingWithoutAWire();
        t.cannotBePaired();
        t.readersBetween();
        t.theFirstRowOfMates();
        t.lettersOrMate();
        t.refusalsOfLetters();
    }

    private void ask(OneWire x, int changes, int bar, int... order) {
        Check.row(x, 0, 0, order);
        b.due("changes to " + Arrays.toString(order), x.order(0, 0, 0, order.length, 0), changes);
        b.due("bars of " + Arrays.toString(order), x.order(0, 0, 0, order.length, 1), bar);
    }

    private void noLoopAndNoGrudges() {
        b.sentence(Document.TERMS, "ORDERS of all PERSONS (there is no LOOP for that; GRUDGES do not matter)");
        String[] texts = {"w0;p200;p100;p300", "w1;p200;p100;p300"};
        for (String text : texts) {
            OneWire x = Check.made(text);
            for (int e = 0; e < x.many(1); e++) {
                x.grudge(e, true);
            }
            b.due("coming", x.coming(), 3);
            ask(x, 2, -9, 2, 0, 1);
            // In a loop the third would get past the first by one change.
            ask(x, -9, 1, 2, 1, 0);
        }
    }

    private void strengthsNoLess() {
        b.sentence(Document.TERMS, "the one on the right changes places with the one on the left, if its STRENGTH is no less.");
        for (int left = 0; left < 10; left++) {
            for (int right = 0; right < 10; right++) {
                OneWire x = Check.made("w0;p" + left + "00;p" + right + "00");
                boolean goes = right >= left;
                b.due(left + " " + right, x.coming(), goes ? 2 : 1);
                ask(x, goes ? 1 : -9, goes ? -9 : 1, 1, 0);
                ask(x, 0, -9, 0, 1);
            }
        }
    }

    private void noChangeAndAllChanges() {
        b.sentence(Document.TERMS, "CHANGES: the fewest by which they stand in a told ORDER.");
        OneWire x = Check.made("w0;p300;p300;p300;p300;p300;p300;p300");
        ask(x, 0, -9, 0, 1, 2, 3, 4, 5, 6);
        ask(x, 21, -9, 6, 5, 4, 3, 2, 1, 0);
        ask(x, 6, -9, 6, 0, 1, 2, 3, 4, 5);
        ask(x, 1, -9, 0, 1, 2, 3, 4, 6, 5);
    }

    private void theLeastBar() {
        b.sentence(Document.TERMS, "BARS: of all pairs (the one who stands on the left now, the one on the right)"
            + " that must change, and can't, the least first one, then the least second.");
        OneWire x = Check.made("w0;p900;p800;p700;p600;p500;p400;p300");
        ask(x, -9, 1, 6, 5, 4, 3, 2, 1, 0);
        ask(x, -9, 56, 0, 1, 2, 3, 4, 6, 5);
        ask(x, -9, 6, 6, 0, 1, 2, 3, 4, 5);
        ask(x, -9, 12, 0, 4, 3, 2, 1, 5, 6);
        ask(x, 0, -9, 0, 1, 2, 3, 4, 5, 6);
        OneWire some = Check.made("w0;p100;p500;p300;p500;p200");
        // 0 gets behind all; of the others 1 and 2, 1 and 4, 2 and 4, 3 and 4 can't change
        ask(some, -9, 12, 4, 3, 2, 1, 0);
        ask(some, -9, 14, 3, 4, 1, 2, 0);
        ask(some, -9, 34, 1, 2, 4, 3, 0);
    }

    private void oneOrderAndAllOrders() {
        b.sentence(Document.TERMS, "COMING: how many ORDERS can come.");
        b.due("the one that stands", Check.made("w0;p900;p800;p700;p600;p500;p400;p300").coming(), 1);
        b.due("all", Check.made("w0;p000;p000;p000;p000;p000;p000;p000").coming(), 5040);
        b.due("all of rising ones", Check.made("w0;p100;p200;p300;p400;p500;p600;p700").coming(), 5040);
        OneWire x = Check.made("w0;p000;p000;p000;p000;p000;p000;p000");
        b.due("all, asked once", x.coming(), 5040);
        b.due("all, asked again", x.coming(), 5040);
        Check.wire(x, "w0;p200;p100;p300");
        b.due("of another wire", x.coming(), 3);
        b.due("two", Check.made("w0;p000;p000").coming(), 2);
        b.due("one", Check.made("w0;p100;p000").coming(), 1);
    }

    private void cannotCome() {
        b.sentence(12, "CHANGES (what 0; NONE: it can't come), BARS: 10 times the first and the second (1; NONE: none).");
        OneWire x = Check.made("w0;p300;p200");
        ask(x, -9, 1, 1, 0);
        ask(x, 0, -9, 0, 1);
    }

    /** As line(), with an ORDER on SHEET 1, of shorts, and the last PERSON once more behind it. */
    private static OneWire ordered() {
        OneWire x = Bound.line();
        Check.row(x, 1, 1, 1, 0, 2, 2);
        x.put(0, 3, 0);
        return x;
    }

    private void refusalsOfSheetAndLane() {
        b.sentence(12, "UNKNOWN: SHEET; OUTSIDE: lane, what;");
        Supplier<OneWire> made = BoundOrders::ordered;
        for (int k : Bound.NO_SHEETS) {
            b.nothingDone("sheet " + k, made, x -> x.order(k, 1, 0, 3, 0), -1, 0);
            b.nothingDone("sheet ahead of lane " + k, made, x -> x.order(k, 3, 0, 3, 2), -1, 0);
        }
        for (int lane : Bound.NO_LANES) {
            b.nothingDone("lane " + lane, made, x -> x.order(1, lane, 0, 3, 0), -2, 0);
            b.nothingDone("lane ahead of null " + lane, made, x -> x.order(3, lane, -1, -1, 0), -2, 0);
        }
        for (int what : Bound.beside(2)) {
            b.nothingDone("what " + what, made, x -> x.order(1, 1, 0, 3, what), -2, 0);
            b.nothingDone("what ahead of cast " + what, made, x -> x.order(1, 0, -1, -1, what), -2, 0);
            b.nothingDone("what ahead of no wire " + what, Bound::nothing, x -> x.order(0, 0, 0, 2, what), -2, 0);
        }
    }

    private void faultsOfOrder() {
        b.sentence(12, "FAULTS CAST, NULL, SIZE, INDEX;");
        Supplier<OneWire> made = BoundOrders::ordered;
        b.nothingDone("cast ahead of size", made, x -> x.order(1, 0, -1, -1, 0), -12, 2);
        b.nothingDone("cast ahead of index", made, x -> x.order(1, 2, 0, 99, 1), -12, 2);
        b.nothingDone("null ahead of size", made, x -> x.order(3, 0, -1, -1, 0), -11, 1);
        b.nothingDone("nothing is no cast", made, x -> x.order(3, 2, 0, 3, 0), -11, 1);
        b.nothingDone("size ahead of index", made, x -> x.order(1, 1, 9, -1, 0), -14, 4);
        b.nothingDone("size", made, x -> x.order(1, 1, 0, Bound.LEAST, 0), -14, 4);
        b.nothingDone("index", made, x -> x.order(1, 1, 2, 3, 0), -13, 3);
        b.nothingDone("index below", made, x -> x.order(1, 1, -1, 3, 0), -13, 3);
        b.nothingDone("index of none", made, x -> x.order(1, 1, 5, 0, 0), -13, 3);
        b.nothingDone("far", made, x -> x.order(1, 1, Bound.MOST, Bound.MOST, 0), -13, 3);
        b.nothingDone("index ahead of no wire", Bound::nothing, x -> x.order(0, 0, 0, 2, 0), -11, 1);
        b.nothingDone("none at the end is no fault", made, x -> x.order(1, 1, 4, 0, 0), -2, 0);
    }

    private static OneWire rowsAlone() {
        OneWire x = new OneWire();
        Check.row(x, 0, 0, 0, 1);
        x.put(0, 2, 0);
        return x;
    }

    private void refusalsBehindTheFaults() {
        b.sentence(12, "STATE: there is no WIRE; OUTSIDE: n is not how many PERSONS there are; UNKNOWN: a PERSON (twice: so, too).");
        b.nothingDone("no wire", BoundOrders::rowsAlone, x -> x.order(0, 0, 0, 2, 0), -3, 0);
        b.nothingDone("no wire, none taken", BoundOrders::rowsAlone, x -> x.order(0, 0, 2, 0, 1), -3, 0);
        Supplier<OneWire> made = BoundOrders::ordered;
        b.nothingDone("one too few", made, x -> x.order(1, 1, 0, 2, 0), -2, 0);
        b.nothingDone("one too many", made, x -> x.order(1, 1, 0, 4, 0), -2, 0);
        b.nothingDone("none", made, x -> x.order(1, 1, 0, 0, 0), -2, 0);
        b.nothingDone("twice", made, x -> x.order(1, 1, 1, 3, 0), -1, 0);
        b.nothingDone("twice, bars", made, x -> x.order(1, 1, 1, 3, 1), -1, 0);
        for (int p : Bound.beside(3)) {
            for (int at = 0; at < 3; at++) {
                OneWire x = Bound.line();
                Check.row(x, 1, 2, 0, 1, 2);
                x.put(1, at, p);
                b.due("person " + p + " at " + at, x.order(1, 2, 0, 3, 0), -1);
                b.due("person " + p + " at " + at + ", bars", x.order(1, 2, 0, 3, 1), -1);
                b.due("no fault", x.fault(), 0);
            }
        }
        b.nothingDone("an answer changes nothing", made, x -> x.order(1, 1, 0, 3, 0), 1, 0);
    }

    private void comingWithoutAWire() {
        b.sentence(13, "COMING. STATE: there is no WIRE.");
        b.refused("no wire", Bound::nothing, OneWire::coming, -3);
        b.refused("an answer changes nothing", Bound::line, OneWire::coming, 6);
    }

    private void mates(String text, int letters, int... mates) {
        OneWire x = Check.made(text);
        b.due("letters of " + text, x.letters(-1), letters);
        for (int p = 0; p < mates.length; p++) {
            b.due("mate of " + p + " in " + text, x.letters(p), mates[p]);
        }
    }

    private void cannotBePaired() {
        b.sentence(Document.TERMS, "WEDDINGS: all PERSONS in pairs, each two of unlike WISHES.");
        mates("w0;p000;p001;p002", -9, -9, -9, -9);
        mates("w1;p000;p001;p002;p003;p000", -9, -9, -9, -9, -9, -9);
        mates("w0;p000;p000", -9, -9, -9);
        mates("w0;p001;p001;p001;p002", -9, -9, -9, -9, -9);
        mates("w0;p001;p001;p002;p002", 2, 2, 3, 0, 1);
        mates("w0;p000;p001", 0, 1, 0);
    }

    private void readersBetween() {
        b.sentence(Document.TERMS, "READERS of a pair: how many PERSONS there are between (the shorter way in a LOOP).");
        mates("w0;p001;p000;p000;p000;p002;p003", 2, 1, 0, 4, 5, 2, 3);
        mates("w0;p001;p001;p002;p002", 2, 2, 3, 0, 1);
        mates("w1;p001;p001;p002;p002", 0, 3, 2, 1, 0);
        mates("w1;p001;p001;p001;p002;p002;p002", 2, 4, 5, 3, 2, 0, 1);
        mates("w1;p000;p001", 0, 1, 0);
    }

    private void theFirstRowOfMates() {
        b.sentence(Document.TERMS, "LETTERS: the fewest READERS of all pairs together; MATE of a PERSON by that:"
            + " by the first, told as a row of MATES by PERSONS.");
        mates("w1;p000;p001;p002;p003", 0, 1, 0, 3, 2);
        mates("w1;p000;p001;p002;p003;p000;p001", 0, 1, 0, 3, 2, 5, 4);
        mates("w0;p001;p001;p001;p002;p002;p002", 6, 3, 4, 5, 0, 1, 2);
        // The first one would rather wed 1; the fewest READERS forbid it.
        mates("w0;p001;p002;p003;p003", 2, 2, 3, 0, 1);
    }

    private void lettersOrMate() {
        b.sentence(14, "LETTERS (p -1; NONE: they can't be paired), MATE of a PERSON (NONE).");
        mates("w0;p003;p003", -9, -9, -9);
        mates("w0;p003;p002", 0, 1, 0);
        mates("w0;p000;p001;p000", -9, -9, -9, -9);
    }

    private void refusalsOfLetters() {
        b.sentence(14, "UNKNOWN: p is not -1, no PERSON; STATE: there is no WIRE.");
        int[] none = {-2, 3, Bound.LEAST, Bound.MOST};
        for (int p : none) {
            b.refused("person " + p, Bound::line, x -> x.letters(p), -1);
            b.refused("person ahead of no wire " + p, Bound::nothing, x -> x.letters(p), -1);
        }
        b.refused("person 0 of no wire", Bound::nothing, x -> x.letters(0), -1);
        b.refused("no wire", Bound::nothing, x -> x.letters(-1), -3);
        b.refused("an answer changes nothing", Bound::loop, x -> x.letters(0), 1);
    }
}
