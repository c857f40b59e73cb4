import java.util.function.Supplier;

/** The boundaries of part 6 and of promises 21 to 30: sheets, telling, leaning, the trace, faults. */
final class BoundSheets {
    private final Bound b;

    private BoundSheets(Bound b) {
        this.b = b;
    }

    static void run(Bound bound) {
        BoundSheets t = new BoundSheets(bound);
        t.fourSheets();
        t.rowsOfNoneToFifty();
        t.zerosAtFirst();
        t.cutToTheLane();
        t.refusalsOfSheet();
        t.losingAgain();
        t.refusalsOfLose();
        t.refusalsOfPut();
        t.refusalsOfCell();
        t.copyOverItself();
        t.copyOfNone();
        t.refusalsOfCopy();
        t.bodies();
        t.theTraceWraps();
        t.refusalsOfTell();
        t.leaning();
        t.refusalsOfLean();
        t.takenAsAKind();
        t.refusalsOfAs();
        t.traceOfNothing();
        t.faultOfTheLatest();
    }

    private void fourSheets() {
        b.sentence(Document.TERMS, "SHEETS 0 .. 3 have nothing (at first)");
        OneWire x = new OneWire();
        for (int k = 0; k < 4; k++) {
            b.due("nothing on " + k, x.lose(k), 0);
            b.due("a row for " + k, x.sheet(k, 2, 1), 1);
            b.due("put on " + k, x.put(k, 0, 10 + k), 1);
        }
        for (int k = 0; k < 4; k++) {
            b.due("each has its own " + k, x.cell(k, 0, 2), 10 + k);
        }
        b.due("no sheet 4", x.sheet(4, 2, 1), -1);
        b.due("no sheet -1", x.sheet(-1, 2, 1), -1);
    }

    private void rowsOfNoneToFifty() {
        b.sentence(Document.TERMS, "or a row of 0 .. 50 numbers");
        for (int lane = 0; lane < 3; lane++) {
            OneWire x = new OneWire();
            int[] lengths = {0, 1, 49, 50};
            for (int n : lengths) {
                b.due("a row of " + n, x.sheet(0, lane, n), 1);
                b.due("its last cell", x.put(0, n - 1, 7), n == 0 ? -13 : 1);
                b.due("none behind it", x.put(0, n, 7), -13);
                b.due("its last cell", x.cell(0, n - 1, lane), n == 0 ? OneWire.LOST : 7);
                b.due("none behind it", x.cell(0, n, lane), OneWire.LOST);
            }
            b.due("51", x.sheet(0, lane, 51), -2);
            b.due("the row of 50 stays", x.cell(0, 49, lane), 7);
        }
    }

    private void zerosAtFirst() {
        b.sentence(Document.TERMS, "numbers (0 at first) of a LANE: 0 bytes, 1 shorts, 2 ints;");
        for (int lane = 0; lane < 3; lane++) {
            OneWire x = new OneWire();
            x.sheet(1, 2 - lane, 50);
            for (int i = 0; i < 50; i++) {
                x.put(1, i, -1);
            }
            x.sheet(1, lane, 3);
            x.sheet(1, lane, 50);
            for (int i = 0; i < 50; i++) {
                b.due("cell " + i + " of lane " + lane, x.cell(1, i, lane), 0);
            }
        }
    }

    private void cutToTheLane() {
        b.sentence(Document.TERMS, "what comes to a cell of it is cut to its LANE");
        int[] put = {0, 1, -1, 127, 128, -128, -129, 255, 256, 32767, 32768, -32768, -32769, 65535, 65536,
            Bound.MOST, Bound.LEAST};
        long[] bytes = {0, 1, -1, 127, -128, -128, 127, -1, 0, -1, 0, 0, -1, -1, 0, -1, 0};
        long[] shorts = {0, 1, -1, 127, 128, -128, -129, 255, 256, 32767, -32768, -32768, 32767, -1, 0, -1, 0};
        OneWire x = new OneWire();
        for (int lane = 0; lane < 3; lane++) {
            x.sheet(lane, lane, 1);
        }
        for (int t = 0; t < put.length; t++) {
            long[] due = {bytes[t], shorts[t], put[t]};
            for (int lane = 0; lane < 3; lane++) {
                b.due("put " + put[t], x.put(lane, 0, put[t]), 1);
                b.due(put[t] + " in lane " + lane, x.cell(lane, 0, lane), due[lane]);
            }
        }
    }

    private void refusalsOfSheet() {
        b.sentence(21, "A SHEET gets a new row: 1. UNKNOWN; OUTSIDE: lane, n above 50; SIZE.");
        for (int k : Bound.NO_SHEETS) {
            b.nothingDone("sheet " + k, Bound::line, x -> x.sheet(k, 0, 1), -1, 0);
            b.nothingDone("sheet ahead of lane " + k, Bound::line, x -> x.sheet(k, 3, 51), -1, 0);
            b.nothingDone("sheet ahead of size " + k, Bound::line, x -> x.sheet(k, 0, -1), -1, 0);
        }
        for (int lane : Bound.NO_LANES) {
            b.nothingDone("lane " + lane, Bound::line, x -> x.sheet(0, lane, 1), -2, 0);
            b.nothingDone("lane ahead of size " + lane, Bound::line, x -> x.sheet(0, lane, -1), -2, 0);
        }
        b.nothingDone("51", Bound::line, x -> x.sheet(0, 0, 51), -2, 0);
        b.nothingDone("far above", Bound::line, x -> x.sheet(0, 0, Bound.MOST), -2, 0);
        b.nothingDone("-1", Bound::line, x -> x.sheet(0, 0, -1), -14, 4);
        b.nothingDone("far below", Bound::line, x -> x.sheet(0, 0, Bound.LEAST), -14, 4);
        b.nothingDone("-1 on nothing", Bound::nothing, x -> x.sheet(3, 2, -1), -14, 4);
        OneWire x = Bound.line();
        b.due("a row of none", x.sheet(0, 0, 0), 1);
        b.due("no fault", x.fault(), 0);
        b.due("has no cell", x.put(0, 0, 0), -13);
        b.due("50", x.sheet(0, 0, 50), 1);
    }

    private void losingAgain() {
        b.sentence(22, "A SHEET has nothing: 1; 0: it had nothing.");
        OneWire x = Bound.line();
        b.due("a row", x.lose(0), 1);
        b.due("nothing", x.put(0, 0, 0), -11);
        b.due("again", x.lose(0), 0);
        b.due("a row of none", x.lose(2), 1);
        b.refused("it had nothing", Bound::line, y -> y.lose(3), 0);
        b.due("others stay", x.cell(1, 0, 1), 4);
        x.sheet(0, 0, 3);
        b.due("a new row, not the old one", x.cell(0, 0, 0), 0);
    }

    private void refusalsOfLose() {
        b.sentence(22, "UNKNOWN.");
        for (int k : Bound.NO_SHEETS) {
            b.refused("sheet " + k, Bound::line, x -> x.lose(k), -1);
            b.refused("sheet " + k, Bound::nothing, x -> x.lose(k), -1);
        }
    }

    private void refusalsOfPut() {
        b.sentence(23, "Cell i of a SHEET becomes v: 1. UNKNOWN; NULL; INDEX.");
        for (int k : Bound.NO_SHEETS) {
            b.nothingDone("sheet " + k, Bound::line, x -> x.put(k, -1, 9), -1, 0);
        }
        for (int i : Bound.beside(3)) {
            b.nothingDone("cell " + i, Bound::line, x -> x.put(0, i, 9), -13, 3);
            b.nothingDone("null ahead of cell " + i, Bound::line, x -> x.put(3, i, 9), -11, 1);
        }
        b.nothingDone("nothing", Bound::line, x -> x.put(3, 0, 9), -11, 1);
        b.nothingDone("a row of none", Bound::line, x -> x.put(2, 0, 9), -13, 3);
        OneWire x = Bound.line();
        b.due("the first", x.put(0, 0, 9), 1);
        b.due("no fault", x.fault(), 0);
        b.due("the last", x.put(0, 2, 8), 1);
        b.due("between", x.cell(0, 1, 0), 2);
        b.due("the first", x.cell(0, 0, 0), 9);
        b.due("the last", x.cell(0, 2, 0), 8);
    }

    private void refusalsOfCell() {
        b.sentence(24, "LOST: UNKNOWN, OUTSIDE: lane; FAULTS CAST (nothing is no CAST), NULL, INDEX.");
        for (int k : Bound.NO_SHEETS) {
            b.nothingDone("sheet " + k, Bound::line, x -> x.cell(k, 9, 3), OneWire.LOST, 0);
        }
        for (int lane : Bound.NO_LANES) {
            b.nothingDone("lane " + lane, Bound::line, x -> x.cell(0, 9, lane), OneWire.LOST, 0);
            b.nothingDone("lane of nothing " + lane, Bound::line, x -> x.cell(3, 0, lane), OneWire.LOST, 0);
        }
        b.nothingDone("cast ahead of index", Bound::line, x -> x.cell(0, 9, 1), OneWire.LOST, 2);
        b.nothingDone("cast", Bound::line, x -> x.cell(1, 0, 0), OneWire.LOST, 2);
        b.nothingDone("cast of a row of none", Bound::line, x -> x.cell(2, 0, 1), OneWire.LOST, 2);
        for (int lane = 0; lane < 3; lane++) {
            int as = lane;
            b.nothingDone("nothing is no cast", Bound::line, x -> x.cell(3, -1, as), OneWire.LOST, 1);
        }
        for (int i : Bound.beside(2)) {
            b.nothingDone("cell " + i, Bound::line, x -> x.cell(1, i, 1), OneWire.LOST, 3);
        }
        b.nothingDone("a row of none", Bound::line, x -> x.cell(2, 0, 2), OneWire.LOST, 3);
        b.nothingDone("the first", Bound::line, x -> x.cell(1, 0, 1), 4, 0);
        b.nothingDone("the last", Bound::line, x -> x.cell(1, 1, 1), 5, 0);
    }

    private void holds(OneWire x, int k, int lane, int... due) {
        for (int i = 0; i < due.length; i++) {
            b.due("cell " + i + " of sheet " + k, x.cell(k, i, lane), due[i]);
        }
    }

    private void copyOverItself() {
        b.sentence(25, "n cells of a SHEET from i on go to another one (perhaps the same) from j on, as they were: n.");
        OneWire x = new OneWire();
        Check.row(x, 0, 0, 1, 2, 3, 4, 5);
        b.due("rightwards", x.copy(0, 0, 0, 1, 4), 4);
        holds(x, 0, 0, 1, 1, 2, 3, 4);
        Check.row(x, 0, 0, 1, 2, 3, 4, 5);
        b.due("leftwards", x.copy(0, 1, 0, 0, 4), 4);
        holds(x, 0, 0, 2, 3, 4, 5, 5);
        b.due("onto itself", x.copy(0, 0, 0, 0, 5), 5);
        holds(x, 0, 0, 2, 3, 4, 5, 5);
        Check.row(x, 1, 0, 0, 0, 0, 0, 0);
        b.due("all", x.copy(0, 0, 1, 0, 5), 5);
        holds(x, 1, 0, 2, 3, 4, 5, 5);
    }

    private void copyOfNone() {
        b.sentence(25, "n cells of a SHEET from i on");
        OneWire x = new OneWire();
        Check.row(x, 0, 2, 1, 2, 3);
        x.sheet(1, 2, 0);
        b.due("none from the end to a row of none", x.copy(0, 3, 1, 0, 0), 0);
        b.due("none from a row of none", x.copy(1, 0, 0, 3, 0), 0);
        b.due("no fault", x.fault(), 0);
        b.due("one to a row of none", x.copy(0, 0, 1, 0, 1), -13);
        b.due("one from a row of none", x.copy(1, 0, 0, 0, 1), -13);
        holds(x, 0, 2, 1, 2, 3);
    }

    /** As line(), and SHEET 2 two bytes. */
    private static OneWire likeLanes() {
        OneWire x = Bound.line();
        Check.row(x, 2, 0, 8, 9);
        x.put(0, 3, 0);
        return x;
    }

    private void refusalsOfCopy() {
        b.sentence(25, "UNKNOWN; FAULTS NULL (the first, the other), CAST (unlike LANES), INDEX: i, j, n below 0 or beyond.");
        Supplier<OneWire> made = BoundSheets::likeLanes;
        for (int k : Bound.NO_SHEETS) {
            b.nothingDone("from " + k, made, x -> x.copy(k, 0, 0, 0, 1), -1, 0);
            b.nothingDone("to " + k, made, x -> x.copy(0, 0, k, 0, 1), -1, 0);
            b.nothingDone("from nothing to " + k, made, x -> x.copy(3, 0, k, -1, -1), -1, 0);
        }
        b.nothingDone("the first", made, x -> x.copy(3, -1, 0, 0, 1), -11, 1);
        b.nothingDone("the other", made, x -> x.copy(0, -1, 3, 0, 1), -11, 1);
        b.nothingDone("both", made, x -> x.copy(3, 0, 3, 0, 0), -11, 1);
        b.nothingDone("cast ahead of index", made, x -> x.copy(0, -1, 1, -1, -1), -12, 2);
        b.nothingDone("cast of none", made, x -> x.copy(1, 0, 0, 0, 0), -12, 2);
        int[] least = {-1, Bound.LEAST};
        for (int wrong : least) {
            b.nothingDone("i " + wrong, made, x -> x.copy(0, wrong, 2, 0, 1), -13, 3);
            b.nothingDone("j " + wrong, made, x -> x.copy(0, 0, 2, wrong, 1), -13, 3);
            b.nothingDone("n " + wrong, made, x -> x.copy(0, 0, 2, 0, wrong), -13, 3);
            b.nothingDone("i " + wrong + " of none", made, x -> x.copy(0, wrong, 2, 0, 0), -13, 3);
            b.nothingDone("j " + wrong + " of none", made, x -> x.copy(0, 0, 2, wrong, 0), -13, 3);
        }
        b.nothingDone("i beyond", made, x -> x.copy(0, 2, 2, 0, 2), -13, 3);
        b.nothingDone("j beyond", made, x -> x.copy(0, 0, 2, 1, 2), -13, 3);
        b.nothingDone("n beyond the first", made, x -> x.copy(2, 0, 0, 0, 3), -13, 3);
        b.nothingDone("n beyond the other", made, x -> x.copy(0, 0, 2, 0, 3), -13, 3);
        b.nothingDone("i beyond, of none", made, x -> x.copy(0, 4, 2, 0, 0), -13, 3);
        b.nothingDone("j beyond, of none", made, x -> x.copy(0, 0, 2, 3, 0), -13, 3);
        b.nothingDone("i and n far", made, x -> x.copy(0, Bound.MOST, 2, 0, Bound.MOST), -13, 3);
        b.nothingDone("j and n far", made, x -> x.copy(0, 0, 2, Bound.MOST, Bound.MOST), -13, 3);
        b.nothingDone("n far", made, x -> x.copy(0, 1, 2, 1, Bound.MOST), -13, 3);
        b.nothingDone("none at the ends", made, x -> x.copy(0, 3, 2, 2, 0), 0, 0);
    }

    private void bodies() {
        b.sentence(Document.TERMS, "PERSON (1): STRENGTH. GRUDGER (2): what PERSON's gives, and 100."
            + " TALKER (3): what GRUDGER's gives, and what PERSON's gives (GRUDGER's left out).");
        for (int strength = 0; strength < 10; strength += 9) {
            OneWire x = Check.made("w0;p" + strength + "00;g" + strength + "00;t" + strength + "00");
            b.due("person", x.tell(0), strength);
            b.due("trace", x.trace(), 1);
            b.due("grudger", x.tell(1), strength + 100);
            b.due("trace", x.trace(), (1 * 31 + 2) * 31 + 1);
            b.due("talker", x.tell(2), 2 * strength + 100);
            b.due("trace", x.trace(), (((1024 * 31 + 3) * 31 + 2) * 31 + 1) * 31 + 1);
        }
    }

    private void theTraceWraps() {
        b.sentence(Document.TERMS, "TRACE (an int that wraps, 0 at first, becomes 31 times it and the number) as they begin");
        OneWire x = Check.made("w0;p000;t000");
        b.due("at first", x.trace(), 0);
        long whole = 0;
        for (int k = 0; k < 40; k++) {
            x.lean(1);
            whole = whole * 31 + 5;
            b.due("trace " + k, x.trace(), (int) whole);
        }
        OneWire y = Check.made("w0;p000;t000");
        // 31 times the last but one, and 5, is past the greatest int
        int[] due = {5, 160, 4965, 153920, 4771525, 147917280, 290468389};
        for (int k = 0; k < due.length; k++) {
            y.lean(1);
            b.due("the " + k + "-th", y.trace(), due[k]);
        }
    }

    private void refusalsOfTell() {
        b.sentence(26, "TELLING of a PERSON. UNKNOWN.");
        for (int p : Bound.beside(3)) {
            b.refused("person " + p, Bound::line, x -> x.tell(p), -1);
        }
        b.refused("no wire", Bound::nothing, x -> x.tell(0), -1);
    }

    private void leaning() {
        b.sentence(Document.TERMS, "LEANT on by a lent body (4): its number; TALKERS have their own (5): 70.");
        OneWire x = Check.made("w0;p000;g000;t000;g000;p000;t000;g000");
        int[] due = {0, 1, 70, 3, 4, 70, 6};
        int trace = 0;
        for (int p = 0; p < 7; p++) {
            b.due("lean on " + p, x.lean(p), due[p]);
            trace = 31 * trace + (due[p] == 70 ? 5 : 4);
            b.due("trace", x.trace(), trace);
        }
    }

    private void refusalsOfLean() {
        b.sentence(27, "How one LEANS on it. UNKNOWN.");
        for (int p : Bound.beside(3)) {
            b.refused("person " + p, Bound::line, x -> x.lean(p), -1);
        }
        b.refused("no wire", Bound::nothing, x -> x.lean(0), -1);
    }

    private void takenAsAKind() {
        b.sentence(28, "CAST: it is none (each is a PERSON, too; a TALKER is a GRUDGER).");
        for (int p = 0; p < 3; p++) {
            for (int kind = 0; kind < 3; kind++) {
                int person = p;
                int as = kind;
                b.nothingDone(p + " as " + kind, Bound::line, x -> x.as(person, as), kind <= p ? 1 : -12, kind <= p ? 0 : 2);
            }
        }
    }

    private void refusalsOfAs() {
        b.sentence(28, "A PERSON, taken as one of a kind: 1. UNKNOWN; OUTSIDE;");
        for (int p : Bound.beside(3)) {
            b.nothingDone("person " + p, Bound::line, x -> x.as(p, 0), -1, 0);
            b.nothingDone("person ahead of kind " + p, Bound::line, x -> x.as(p, 3), -1, 0);
        }
        for (int kind : Bound.beside(3)) {
            b.nothingDone("kind " + kind, Bound::line, x -> x.as(0, kind), -2, 0);
            b.nothingDone("a talker as kind " + kind, Bound::line, x -> x.as(2, kind), -2, 0);
        }
        b.nothingDone("no wire", Bound::nothing, x -> x.as(0, 0), -1, 0);
    }

    private void traceOfNothing() {
        b.sentence(29, "TRACE.");
        b.due("a new object", new OneWire().trace(), 0);
        b.refused("no wire", Bound::nothing, OneWire::trace, 0);
        b.refused("asked", Bound::line, OneWire::trace, ((3 * 31 + 2) * 31 + 1) * 31 + 1);
    }

    private void faultOfTheLatest() {
        b.sentence(30, "The FAULT of the latest call that names one: 0: it came to none, or was refused (0 ahead of any).");
        b.due("ahead of any", new OneWire().fault(), 0);
        OneWire x = Bound.line();
        b.due("the latest", x.fault(), 3);
        b.due("asked again", x.fault(), 3);
        x.put(3, 0, 0);
        b.due("null", x.fault(), 1);
        x.wire(0, 1, 0, 0);
        b.due("cast", x.fault(), 2);
        x.sheet(0, 0, -1);
        b.due("size", x.fault(), 4);
        x.put(0, 0, 0);
        b.due("came to none", x.fault(), 0);
        x.cell(0, 9, 0);
        b.due("index", x.fault(), 3);
        x.copy(9, 0, 0, 0, 0);
        b.due("refused", x.fault(), 0);
        x.order(0, 0, 0, -1, 0);
        b.due("size", x.fault(), 4);
        x.order(0, 0, 0, 1, 0);
        b.due("refused behind the faults", x.fault(), 0);
        x.as(0, 1);
        b.due("cast", x.fault(), 2);
        x.tell(9);
        x.lose(9);
        b.due("these name none", x.fault(), 2);
        x.as(0, 0);
        b.due("came to none", x.fault(), 0);
    }
}
