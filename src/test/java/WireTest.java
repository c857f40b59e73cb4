/** Promises 1 to 6 and 31: a new object, the text, persons, grudges, hands, wishes, how many. */
final class WireTest {
    private static final Check CHECK = new Check();

    public static void main(String[] args) {
        aNewObjectHasNothing();
        textsThatAreTaken();
        firstFaults();
        textsInsideARow();
        refusalsAndFaultsOfWire();
        aTakenTextMakesAllAnew();
        aTextNotTakenChangesNothing();
        personsAreAsTold();
        grudges();
        hands();
        wishes();
        howMany();
        CHECK.end();
    }

    private static void aNewObjectHasNothing() {
        OneWire x = new OneWire();
        for (int what = 0; what < 5; what++) {
            CHECK.due("new many " + what, x.many(what), 0);
        }
        CHECK.due("new fault", x.fault(), 0);
        CHECK.due("new trace", x.trace(), 0);
        for (int k = 0; k < 4; k++) {
            CHECK.due("new lose " + k, x.lose(k), 0);
            CHECK.due("new put " + k, x.put(k, 0, 0), -11);
            CHECK.due("new cell " + k, x.cell(k, 0, 0), OneWire.LOST);
            CHECK.due("new cell's fault " + k, x.fault(), 1);
            CHECK.due("new wire " + k, x.wire(k, 0, 0, 0), -11);
        }
    }

    private static void textsThatAreTaken() {
        StringBuilder text = new StringBuilder("w0");
        for (int persons = 1; persons <= 8; persons++) {
            text.append(";p000");
            int due = persons == 1 ? -107 : persons == 8 ? -137 : persons;
            CHECK.due("wire " + text, Check.wire(new OneWire(), text.toString()), due);
        }
        CHECK.due("all digits", Check.wire(new OneWire(), "w1;g933;t900;p003"), 3);
    }

    private static void firstFaults() {
        String[] texts = {"", "x", "w", "w2", "w/", "w0", "w0p", "w0;", "w0;x", "w0;P", "w0;p", "w0;p:", "w0;p/",
            "w0;p9", "w0;p94", "w0;p93", "w0;p934", "w0;p933", "w0;p933p", "w0;p933;", "w0;p933;t12",
            "w0;p933;t123x", "w0;p933;t123;", "w0;p933;t123;g12", "W0;p933;t123", "w0;p933;t12/"};
        int[] places = {0, 0, 1, 1, 1, 2, 2, 3, 3, 3, 4, 4, 4,
            5, 5, 6, 6, 7, 7, 8, 11,
            12, 13, 16, 0, 11};
        for (int t = 0; t < texts.length; t++) {
            OneWire x = new OneWire();
            CHECK.due("first fault of " + texts[t], Check.wire(x, texts[t]), -100 - places[t]);
            CHECK.due("no fault of " + texts[t], x.fault(), 0);
            CHECK.due("no persons of " + texts[t], x.many(0), 0);
        }
    }

    private static void textsInsideARow() {
        for (int lane = 0; lane < 3; lane++) {
            OneWire x = new OneWire();
            Check.row(x, 1, lane, Check.codes("zzw1;p123;g210;t300zz"));
            CHECK.due("inside a row", x.wire(1, lane, 2, 12), 2);
            CHECK.due("inside a row, three", x.wire(1, lane, 2, 17), 3);
            CHECK.due("its place is the text's", x.wire(1, lane, 2, 18), -117);
            CHECK.due("at once wrong", x.wire(1, lane, 1, 5), -100);
            CHECK.due("strength", x.ofPerson(1, 1), 2);
        }
        OneWire x = new OneWire();
        Check.row(x, 1, 1, Check.codes("w1;p123;g210"));
        x.put(1, 0, 119 + 256);
        CHECK.due("shorts are not cut to bytes", x.wire(1, 1, 0, 12), -100);
        Check.row(x, 1, 0, Check.codes("w1;p123;g210"));
        x.put(1, 0, 119 + 256);
        CHECK.due("bytes are", x.wire(1, 0, 0, 12), 2);
    }

    private static void refusalsAndFaultsOfWire() {
        OneWire x = new OneWire();
        Check.row(x, 0, 1, Check.codes("w1;p123;g210"));
        int[][] calls = {
            {-1, 1, 0, 12, -1, 0}, {4, 9, 0, -1, -1, 0}, {0, 3, 0, -1, -2, 0}, {0, -1, 0, 12, -2, 0},
            {1, 3, 0, 12, -2, 0}, {0, 0, 99, -1, -12, 2}, {0, 2, 0, 12, -12, 2}, {1, 0, 99, -1, -11, 1},
            {1, 2, 0, 12, -11, 1}, {0, 1, 99, -1, -14, 4}, {0, 1, 0, Integer.MIN_VALUE, -14, 4},
            {0, 1, 0, 13, -13, 3}, {0, 1, 1, 12, -13, 3}, {0, 1, -1, 12, -13, 3}, {0, 1, 13, 0, -13, 3},
            {0, 1, -1, 0, -13, 3}, {0, 1, Integer.MAX_VALUE, Integer.MAX_VALUE, -13, 3},
            {0, 1, Integer.MIN_VALUE, 1, -13, 3}, {0, 1, 12, 0, -100, 0}, {0, 1, 0, 0, -100, 0}};
        for (int[] c : calls) {
            String call = "wire " + c[0] + " " + c[1] + " " + c[2] + " " + c[3];
            CHECK.due(call, x.wire(c[0], c[1], c[2], c[3]), c[4]);
            CHECK.due(call + " fault", x.fault(), c[5]);
            CHECK.due(call + " persons", x.many(0), 0);
        }
        CHECK.due("wire", x.wire(0, 1, 0, 12), 2);
        CHECK.due("fault", x.fault(), 0);
    }

    private static void aTakenTextMakesAllAnew() {
        OneWire x = Check.made("w1;p000;p000;p000");
        x.grudge(0, true);
        x.grudge(2, true);
        x.reading(0, 1, 1, 1);
        x.tell(0);
        CHECK.due("grudges ahead", x.many(2), 2);
        Check.wire(x, "w1;p000;p000;p000");
        CHECK.due("grudges anew", x.many(2), 0);
        CHECK.due("readings anew", x.many(3), 0);
        CHECK.due("hand anew", x.hand(0), 1);
        CHECK.due("trace stays", x.trace(), 1);
        Check.wire(x, "w0;p000;p000");
        CHECK.due("persons anew", x.many(0), 2);
        CHECK.due("edges anew", x.many(1), 1);
        CHECK.due("loop anew", x.many(4), 0);
        CHECK.due("no third one", x.ofPerson(2, 0), -1);
    }

    private static void aTextNotTakenChangesNothing() {
        OneWire x = Check.made("w1;p012;p000;p000");
        x.grudge(0, true);
        x.reading(0, 1, 1, 1);
        CHECK.due("not taken", Check.wire(x, "w0;t333;t333;"), -113);
        CHECK.due("persons stay", x.many(0), 3);
        CHECK.due("grudges stay", x.many(2), 1);
        CHECK.due("readings stay", x.many(3), 1);
        CHECK.due("loop stays", x.many(4), 1);
        CHECK.due("kind stays", x.ofPerson(0, 0), 0);
        CHECK.due("good stays", x.ofPerson(0, 2), 1);
    }

    private static void personsAreAsTold() {
        OneWire x = Check.made("w0;p012;g930;t503");
        int[][] due = {{0, 0, 1, 2}, {1, 9, 3, 0}, {2, 5, 0, 3}};
        for (int p = 0; p < 3; p++) {
            for (int what = 0; what < 4; what++) {
                CHECK.due("ofPerson " + p + " " + what, x.ofPerson(p, what), due[p][what]);
            }
            CHECK.due("ofPerson outside", x.ofPerson(p, -1), -2);
            CHECK.due("ofPerson outside", x.ofPerson(p, 4), -2);
        }
        CHECK.due("ofPerson unknown ahead of outside", x.ofPerson(3, 4), -1);
        CHECK.due("ofPerson unknown", x.ofPerson(-1, 0), -1);
    }

    private static void grudges() {
        OneWire x = Check.made("w0;p000;p000;p000");
        CHECK.due("no grudge", x.grudge(1, false), 0);
        CHECK.due("grudge", x.grudge(1, true), 1);
        CHECK.due("grudge again", x.grudge(1, true), 0);
        CHECK.due("one", x.many(2), 1);
        CHECK.due("gone", x.grudge(1, false), 1);
        CHECK.due("none", x.many(2), 0);
        CHECK.due("no edge past the line", x.grudge(2, true), -1);
        CHECK.due("no edge ahead", x.grudge(-1, true), -1);
        OneWire loop = Check.made("w1;p000;p000;p000");
        CHECK.due("a loop's last edge", loop.grudge(2, true), 1);
        CHECK.due("no edge past the loop", loop.grudge(3, false), -1);
        CHECK.due("a loop of two has two", Check.made("w1;p000;p000").grudge(1, true), 1);
    }

    private static void hands() {
        OneWire x = Check.made("w1;p000;p010;p020");
        CHECK.due("hand", x.hand(0), 1);
        holds(x, 1, 0, 2);
        CHECK.due("hand over the last", x.hand(2), 1);
        holds(x, 2, 0, 1);
        x.grudge(1, true);
        CHECK.due("hand over a grudge", x.hand(1), -3);
        holds(x, 2, 0, 1);
        CHECK.due("hand unknown", x.hand(3), -1);
        CHECK.due("hand unknown", x.hand(-1), -1);
        CHECK.due("hand over a line's end", Check.made("w0;p000;p010").hand(1), -1);
        OneWire two = Check.made("w1;p000;p010");
        two.grudge(0, true);
        CHECK.due("two of two", two.hand(1), 1);
        CHECK.due("two changed", two.ofPerson(0, 2), 1);
        CHECK.due("two's first has a grudge", two.hand(0), -3);
    }

    private static void holds(OneWire x, int... goods) {
        for (int p = 0; p < goods.length; p++) {
            CHECK.due("good of " + p, x.ofPerson(p, 2), goods[p]);
        }
    }

    private static void wishes() {
        OneWire x = Check.made("w0;p001;p002");
        CHECK.due("wish", x.wish(0, 3), 1);
        CHECK.due("wished", x.ofPerson(0, 3), 3);
        CHECK.due("wish the same", x.wish(0, 3), 3);
        CHECK.due("wish nothing else", x.ofPerson(1, 3), 2);
        CHECK.due("wish outside", x.wish(0, 4), -2);
        CHECK.due("wish outside", x.wish(0, -1), -2);
        CHECK.due("wish unknown ahead of outside", x.wish(2, 4), -1);
        CHECK.due("wish unknown", x.wish(-1, 0), -1);
        CHECK.due("still", x.ofPerson(0, 3), 3);
    }

    private static void howMany() {
        OneWire x = Check.made("w1;p000;p000;p000;p000");
        x.grudge(1, true);
        x.grudge(3, true);
        x.reading(0, 0, 0, 0);
        int[] due = {4, 4, 2, 1, 1};
        for (int what = 0; what < due.length; what++) {
            CHECK.due("many " + what, x.many(what), due[what]);
        }
        CHECK.due("many outside", x.many(5), -2);
        CHECK.due("many outside", x.many(-1), -2);
        CHECK.due("a line's edges", Check.made("w0;p000;p000;p000;p000").many(1), 3);
    }
}
