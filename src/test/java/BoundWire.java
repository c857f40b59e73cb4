/** The boundaries of part 1 and of promises 1 to 6 and 31: texts, edges, persons, grudges, hands, wishes. */
final class BoundWire {
    private static final String SEVEN = "w1;p901;g012;t523;p230;g101;t333;p900";
    private final Bound b;

    private BoundWire(Bound b) {
        this.b = b;
    }

    static void run(Bound bound) {
        BoundWire t = new BoundWire(bound);
        t.aNewObject();
        t.loopDigit();
        t.howManyPersons();
        t.letters();
        t.strengthDigits();
        t.goodsHad();
        t.goodsWished();
        t.firstWrongCode();
        t.theFirstOfTwoWrongCodes();
        t.eighthPerson();
        t.endsTooSoon();
        t.codesByNumber();
        t.allAnew();
        t.edgesOfALine();
        t.edgesOfALoop();
        t.refusalsOfWire();
        t.faultsOfWire();
        t.notTaken();
        t.refusalsOfPersons();
        t.grudgesAgain();
        t.refusalsOfGrudge();
        t.refusalsOfHand();
        t.refusalsOfWish();
        t.howMany();
        t.refusalsOfMany();
    }

    private int taken(String text) {
        return Check.wire(new OneWire(), text);
    }

    /** A code at a place of a text that is right otherwise: whether it is taken. */
    private void code(String text, int place, int code, boolean goesOn) {
        OneWire x = new OneWire();
        Check.row(x, 0, 2, Check.codes(text));
        x.put(0, place, code);
        int persons = (text.length() - 2) / 5;
        b.due("code " + code + " at " + place, x.wire(0, 2, 0, text.length()), goesOn ? persons : -100 - place);
        b.due("code " + code + " at " + place + ": persons", x.many(0), goesOn ? persons : 0);
        b.due("code " + code + " at " + place + ": no fault", x.fault(), 0);
    }

    private void digits(int place, int most) {
        for (int code = 40; code < 70; code++) {
            code(SEVEN, place, code, code >= 48 && code <= 48 + most);
        }
        int[] far = {Bound.LEAST, -1, 0, most, 48 + 256, 48 + 65536, Bound.MOST};
        for (int code : far) {
            code(SEVEN, place, code, false);
        }
    }

    private void aNewObject() {
        b.sentence(1, "No WIRE (no PERSONS), SHEETS have nothing.");
        OneWire x = new OneWire();
        b.due("persons", x.many(0), 0);
        b.due("no person 0", x.ofPerson(0, 0), -1);
        b.due("no edge 0", x.grudge(0, false), -1);
        b.due("no wire", x.coming(), -3);
        for (int k = 0; k < 4; k++) {
            b.due("nothing to lose", x.lose(k), 0);
            b.due("nothing to put on", x.put(k, 0, 0), -11);
        }
    }

    private void loopDigit() {
        b.sentence(Document.TERMS, "w, a digit 0, 1 (1: it is a LOOP)");
        digits(1, 1);
        b.due("no w", taken("v0;p000;p000"), -100);
        OneWire line = Check.made("w0;p000;p000");
        b.due("0: a line", line.many(4), 0);
        OneWire loop = Check.made("w1;p000;p000");
        b.due("1: a loop", loop.many(4), 1);
    }

    private void howManyPersons() {
        b.sentence(Document.TERMS, "then 2 to 7 PERSONS, numbered from 0 on, PERSON k at PLACE k");
        for (int loop = 0; loop < 2; loop++) {
            b.due("none", taken(Bound.text(loop == 1, 0)), -102);
            b.due("one", taken(Bound.text(loop == 1, 1)), -107);
            for (int persons = 2; persons <= 7; persons++) {
                OneWire x = Check.made(Bound.text(loop == 1, persons));
                b.due(persons + " persons", x.many(0), persons);
                b.due("the last one", x.ofPerson(persons - 1, 0), 0);
                b.due("none behind it", x.ofPerson(persons, 0), -1);
            }
            b.due("eight", taken(Bound.text(loop == 1, 8)), -137);
        }
        OneWire x = Check.made(SEVEN);
        int[] strengths = {9, 0, 5, 2, 1, 3, 9};
        for (int p = 0; p < 7; p++) {
            b.due("person " + p, x.ofPerson(p, 1), strengths[p]);
        }
    }

    private void letters() {
        b.sentence(Document.TERMS, "each: ; and a letter");
        for (int place = 3; place < 37; place += 5) {
            for (int code = 60; code < 130; code++) {
                code(SEVEN, place, code, code == 'p' || code == 'g' || code == 't');
            }
            code(SEVEN, place, 'p' + 256, false);
            code(SEVEN, place - 1, ':', false);
            code(SEVEN, place - 1, '<', false);
        }
        b.sentence(Document.TERMS, "Kinds: 0 PERSON (p); 1 GRUDGER (g), a PERSON; 2 TALKER (t), a GRUDGER.");
        OneWire x = Check.made("w0;p000;g000;t000");
        for (int p = 0; p < 3; p++) {
            b.due("kind " + p, x.ofPerson(p, 0), p);
        }
    }

    private void strengthDigits() {
        b.sentence(Document.TERMS, "a digit 0 .. 9 (STRENGTH)");
        digits(4, 9);
        digits(34, 9);
        for (int digit = 0; digit < 10; digit++) {
            b.due("strength", Check.made("w0;p000;p" + digit + "00").ofPerson(1, 1), digit);
        }
    }

    private void goodsHad() {
        b.sentence(Document.TERMS, "a digit 0 .. 3 (the GOOD it HAS)");
        digits(5, 3);
        digits(35, 3);
        for (int digit = 0; digit < 4; digit++) {
            b.due("has", Check.made("w0;p000;p0" + digit + "0").ofPerson(1, 2), digit);
        }
    }

    private void goodsWished() {
        b.sentence(Document.TERMS, "a digit 0 .. 3 (the GOOD it WISHES)");
        digits(6, 3);
        digits(36, 3);
        for (int digit = 0; digit < 4; digit++) {
            b.due("wishes", Check.made("w0;p000;p00" + digit).ofPerson(1, 3), digit);
        }
    }

    private void firstWrongCode() {
        b.sentence(Document.TERMS, "FIRST FAULT: the place (from 0 on) of the first code with which no TEXT goes on");
        for (int place = 0; place < SEVEN.length(); place++) {
            code(SEVEN, place, ' ', false);
            String cut = SEVEN.substring(0, place);
            b.due("wrong at its end", taken(cut + "x"), -100 - place);
        }
    }

    private void theFirstOfTwoWrongCodes() {
        b.sentence(Document.TERMS, "of the first code with which no TEXT goes on");
        b.due("two wrong ones", taken("w0;p040;x000"), -105);
        b.due("wrong, and too soon", taken("w0;p04"), -105);
        b.due("wrong, and too many", taken("w0;q000" + ";p000".repeat(7)), -103);
        b.due("a person that is alone, and more", taken("w0;p000w"), -107);
    }

    private void eighthPerson() {
        b.sentence(Document.TERMS, "(the ; of an eighth PERSON)");
        b.due("just its ;", taken(SEVEN + ";"), -137);
        b.due("all of it", taken(SEVEN + ";p000"), -137);
        b.due("another code there", taken(SEVEN + "0"), -137);
        b.due("the seventh's ;", taken(SEVEN.substring(0, 33)), -133);
        b.due("fifty codes", taken(SEVEN + ";p000;p000;p0"), -137);
    }

    private void endsTooSoon() {
        b.sentence(Document.TERMS, "how many codes there are, if it just ends too soon");
        for (int n = 0; n <= SEVEN.length(); n++) {
            boolean whole = n >= 12 && (n - 2) % 5 == 0;
            b.due("the first " + n, taken(SEVEN.substring(0, n)), whole ? (n - 2) / 5 : -100 - n);
        }
    }

    private void codesByNumber() {
        b.sentence(Document.TERMS, "(Codes: w 119, p 112, g 103, t 116, ; 59, digits 48 .. 57.)");
        OneWire x = new OneWire();
        Check.row(x, 0, 1, 119, 49, 59, 112, 57, 48, 51, 59, 103, 48, 51, 48, 59, 116, 53, 49, 50);
        b.due("wire", x.wire(0, 1, 0, 17), 3);
        int[][] due = {{0, 9, 0, 3}, {1, 0, 3, 0}, {2, 5, 1, 2}};
        for (int p = 0; p < 3; p++) {
            for (int what = 0; what < 4; what++) {
                b.due("person " + p, x.ofPerson(p, what), due[p][what]);
            }
        }
    }

    private void allAnew() {
        b.sentence(Document.TERMS, "A TEXT that is taken makes all anew: no GRUDGES, no READINGS.");
        OneWire x = Bound.full();
        x.grudge(0, true);
        b.due("taken", Check.wire(x, "w1;t100;t200;t310;t423"), 4);
        b.due("no grudges", x.many(2), 0);
        b.due("no readings", x.many(3), 0);
        b.due("the first number again", x.reading(0, 0, 0, 0), 0);
        b.due("no grudge on edge 0", x.grudge(0, false), 0);
        b.due("no grudge on edge 1", x.grudge(1, false), 0);
        b.due("the same again", Check.wire(x, "w1;t100;t200;t310;t423"), 4);
        b.due("no readings", x.many(3), 0);
        x.wish(0, 3);
        x.hand(3);
        b.due("fewer", Check.wire(x, "w0;p000;p000"), 2);
        b.due("has", x.ofPerson(0, 2), 0);
        b.due("wishes", x.ofPerson(0, 3), 0);
        b.due("no person 2", x.ofPerson(2, 0), -1);
        b.due("no edge 1", x.grudge(1, true), -1);
        b.due("more again", Check.wire(x, "w1;p000;p000;p000;p000"), 4);
        b.due("no grudges", x.many(2), 0);
        b.due("edges", x.many(1), 4);
    }

    private void edgesOfALine() {
        b.sentence(Document.TERMS, "EDGES: number e from PLACE e to PLACE e and 1;");
        for (int persons = 2; persons <= 7; persons++) {
            OneWire x = Check.made(Bound.text(false, persons));
            b.due("edges of " + persons, x.many(1), persons - 1);
            b.due("the last one", x.grudge(persons - 2, true), 1);
            b.due("none behind it", x.grudge(persons - 1, true), -1);
            b.due("from the last but one", x.news(persons - 2, 0, persons - 1, 1), -9);
        }
        OneWire x = Check.made("w0;p000;p010;p020");
        x.hand(1);
        b.due("place 1", x.ofPerson(1, 2), 2);
        b.due("place 2", x.ofPerson(2, 2), 1);
    }

    private void edgesOfALoop() {
        b.sentence(Document.TERMS, "in a LOOP also one from the last PLACE to PLACE 0 (its number is that of the last PLACE;");
        for (int persons = 2; persons <= 7; persons++) {
            OneWire x = Check.made(Bound.text(true, persons));
            b.due("edges of " + persons, x.many(1), persons);
            b.due("none behind the last", x.grudge(persons, true), -1);
            b.due("from last to 0", x.news(persons - 1, 0, 0, 1), 1);
            b.due("the last one", x.grudge(persons - 1, true), 1);
            b.due("the long way", x.news(persons - 1, 0, 0, 1), persons - 1);
        }
        b.sentence(Document.TERMS, "of two PERSONS there are two EDGES then). On an EDGE there may be a GRUDGE.");
        OneWire x = Check.made("w1;p000;p010");
        b.due("edges", x.many(1), 2);
        b.due("grudge on 0", x.grudge(0, true), 1);
        b.due("not on 1", x.hand(1), 1);
        b.due("changed", x.ofPerson(0, 2), 1);
        b.due("grudge on 1", x.grudge(1, true), 1);
        b.due("both", x.many(2), 2);
        b.due("parted", x.news(0, 0, 1, 0), -9);
    }

    private void refusalsOfWire() {
        b.sentence(2, "UNKNOWN; OUTSIDE: lane;");
        for (int k : Bound.NO_SHEETS) {
            b.nothingDone("sheet " + k, Bound::line, x -> x.wire(k, 0, 0, 0), -1, 0);
            b.nothingDone("sheet and lane " + k, Bound::line, x -> x.wire(k, k, -1, -1), -1, 0);
        }
        for (int lane : Bound.NO_LANES) {
            b.nothingDone("lane " + lane, Bound::line, x -> x.wire(0, lane, 0, 3), -2, 0);
            b.nothingDone("lane of nothing " + lane, Bound::line, x -> x.wire(3, lane, 0, -1), -2, 0);
        }
    }

    private void faultsOfWire() {
        b.sentence(2, "FAULTS CAST (nothing is no CAST), NULL, SIZE: n is below 0, INDEX: not all cells are there; -100 less it.");
        b.nothingDone("cast ahead of size", Bound::line, x -> x.wire(0, 1, -1, -1), -12, 2);
        b.nothingDone("cast of none", Bound::line, x -> x.wire(2, 0, 0, 0), -12, 2);
        for (int lane = 0; lane < 3; lane++) {
            int as = lane;
            b.nothingDone("nothing is no cast", Bound::line, x -> x.wire(3, as, -1, -1), -11, 1);
        }
        b.nothingDone("size ahead of index", Bound::line, x -> x.wire(0, 0, 9, -1), -14, 4);
        b.nothingDone("size", Bound::line, x -> x.wire(0, 0, 0, Bound.LEAST), -14, 4);
        b.nothingDone("one too many", Bound::line, x -> x.wire(0, 0, 0, 4), -13, 3);
        b.nothingDone("from 1 on", Bound::line, x -> x.wire(0, 0, 1, 3), -13, 3);
        b.nothingDone("from -1 on", Bound::line, x -> x.wire(0, 0, -1, 1), -13, 3);
        b.nothingDone("far", Bound::line, x -> x.wire(0, 0, Bound.MOST, Bound.MOST), -13, 3);
        b.nothingDone("far and near", Bound::line, x -> x.wire(0, 0, 3, Bound.MOST), -13, 3);
        b.nothingDone("far back", Bound::line, x -> x.wire(0, 0, Bound.LEAST, Bound.MOST), -13, 3);
        b.nothingDone("none beyond the end", Bound::line, x -> x.wire(0, 0, 4, 0), -13, 3);
        b.nothingDone("none at the end", Bound::line, x -> x.wire(0, 0, 3, 0), -100, 0);
        b.nothingDone("none of a row of none", Bound::line, x -> x.wire(2, 2, 0, 0), -100, 0);
        b.nothingDone("one of a row of none", Bound::line, x -> x.wire(2, 2, 0, 1), -13, 3);
        OneWire x = new OneWire();
        Check.row(x, 0, 0, Check.codes(" ".repeat(13) + SEVEN));
        b.due("up to the last cell", x.wire(0, 0, 13, 37), 7);
        b.due("one beyond it", x.wire(0, 0, 13, 38), -13);
        b.due("fault", x.fault(), 3);
        b.due("persons stay", x.many(0), 7);
    }

    private void notTaken() {
        b.sentence(2, "how many PERSONS; -100 less the FIRST FAULT.");
        b.nothingDone("at once", Bound::line, x -> x.wire(0, 0, 0, 3), -100, 0);
        b.nothingDone("empty", Bound::loop, x -> x.wire(0, 0, 0, 0), -100, 0);
        OneWire x = new OneWire();
        Check.row(x, 0, 0, Check.codes("ww0;p000;g000w"));
        b.due("from 1 on", x.wire(0, 0, 1, 12), 2);
        b.due("its place in the text", x.wire(0, 0, 1, 13), -112);
        b.due("persons stay", x.many(0), 2);
    }

    private void refusalsOfPersons() {
        b.sentence(3, "0 kind, 1 STRENGTH, 2 the GOOD it HAS, 3 that it WISHES. UNKNOWN; OUTSIDE.");
        for (int p : Bound.beside(3)) {
            b.refused("person " + p, Bound::line, x -> x.ofPerson(p, 0), -1);
            b.refused("person and what " + p, Bound::line, x -> x.ofPerson(p, 4), -1);
        }
        for (int what : Bound.beside(4)) {
            b.refused("what " + what, Bound::line, x -> x.ofPerson(0, what), -2);
        }
        b.refused("no wire", Bound::nothing, x -> x.ofPerson(0, 0), -1);
        b.refused("no wire", Bound::nothing, x -> x.ofPerson(0, 4), -1);
    }

    private void grudgesAgain() {
        b.sentence(4, "A GRUDGE on an EDGE is there (true), or not: 1; 0: it was so.");
        b.refused("it was there", Bound::line, x -> x.grudge(1, true), 0);
        b.refused("it was not there", Bound::line, x -> x.grudge(0, false), 0);
        OneWire x = Bound.line();
        b.due("one more", x.grudge(0, true), 1);
        b.due("two", x.many(2), 2);
        b.due("one gone", x.grudge(1, false), 1);
        b.due("one", x.many(2), 1);
        b.due("gone already", x.grudge(1, false), 0);
        b.due("the other stays", x.grudge(0, true), 0);
    }

    private void refusalsOfGrudge() {
        b.sentence(4, "UNKNOWN.");
        for (int e : Bound.beside(2)) {
            b.refused("edge " + e, Bound::line, x -> x.grudge(e, true), -1);
            b.refused("edge " + e, Bound::line, x -> x.grudge(e, false), -1);
        }
        for (int e : Bound.beside(4)) {
            b.refused("a loop's edge " + e, Bound::loop, x -> x.grudge(e, true), -1);
        }
        b.refused("no wire", Bound::nothing, x -> x.grudge(0, true), -1);
        b.due("a loop's last", Bound.loop().grudge(3, true), 1);
    }

    private void refusalsOfHand() {
        b.sentence(5, "UNKNOWN; STATE: there is a GRUDGE.");
        for (int e : Bound.beside(2)) {
            b.refused("edge " + e, Bound::line, x -> x.hand(e), -1);
        }
        for (int e : Bound.beside(4)) {
            b.refused("a loop's edge " + e, Bound::loop, x -> x.hand(e), -1);
        }
        b.refused("no wire", Bound::nothing, x -> x.hand(0), -1);
        b.refused("a grudge", Bound::line, x -> x.hand(1), -3);
        b.refused("a loop's grudge", Bound::loop, x -> x.hand(1), -3);
        OneWire x = Bound.loop();
        b.due("a loop's last", x.hand(3), 1);
        b.due("the first has", x.ofPerson(0, 2), 3);
        b.due("the last has", x.ofPerson(3, 2), 0);
    }

    private void refusalsOfWish() {
        b.sentence(6, "The GOOD that a PERSON WISHES becomes another one: what it was. UNKNOWN; OUTSIDE.");
        for (int p : Bound.beside(3)) {
            b.refused("person " + p, Bound::line, x -> x.wish(p, 0), -1);
            b.refused("person and good " + p, Bound::line, x -> x.wish(p, 4), -1);
        }
        for (int good : Bound.beside(4)) {
            b.refused("good " + good, Bound::line, x -> x.wish(0, good), -2);
        }
        b.refused("no wire", Bound::nothing, x -> x.wish(0, 0), -1);
        b.refused("the same", Bound::line, x -> x.wish(0, 1), 1);
        OneWire x = Bound.line();
        b.due("the least good", x.wish(0, 0), 1);
        b.due("the greatest good", x.wish(0, 3), 0);
        b.due("it is so", x.ofPerson(0, 3), 3);
    }

    private void howMany() {
        b.sentence(31, "0 PERSONS, 1 EDGES, 2 EDGES with a GRUDGE, 3 READINGS, 4 whether it is a LOOP (1, 0; 0 all without a WIRE).");
        int[] ofLine = {3, 2, 1, 1, 0};
        int[] ofLoop = {4, 4, 1, 1, 1};
        for (int what = 0; what < 5; what++) {
            b.due("without a wire " + what, Bound.nothing().many(what), 0);
            b.due("a line " + what, Bound.line().many(what), ofLine[what]);
            b.due("a loop " + what, Bound.loop().many(what), ofLoop[what]);
        }
        b.due("as many readings as may be", Bound.full().many(3), 8);
        OneWire x = Check.made(Bound.text(true, 7));
        for (int e = 0; e < 7; e++) {
            x.grudge(e, true);
        }
        b.due("as many grudges as may be", x.many(2), 7);
    }

    private void refusalsOfMany() {
        b.sentence(31, "OUTSIDE.");
        for (int what : Bound.beside(5)) {
            b.refused("what " + what, Bound::line, x -> x.many(what), -2);
            b.refused("what " + what, Bound::nothing, x -> x.many(what), -2);
        }
    }
}
