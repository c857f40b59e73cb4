/** The boundaries of part 3 and of promises 9 to 11: hands, days, what must go over an edge. */
final class BoundGoods {
    private final Bound b;

    private BoundGoods(Bound b) {
        this.b = b;
    }

    static void run(Bound bound) {
        BoundGoods t = new BoundGoods(bound);
        t.overAGrudge();
        t.noneIsNeeded();
        t.theMostThatCanBe();
        t.ofAnEarlierWireNothingIsLeft();
        t.daysWithoutAPlaceInCommon();
        t.fewestCannotBe();
        t.fewestWithoutAWire();
        t.soonestCannotBe();
        t.soonestWithoutAWire();
        t.cutIfItIsSo();
        t.refusalsOfCut();
    }

    private void both(String text, int fewest, int soonest) {
        OneWire x = Check.made(text);
        b.due("fewest of " + text, x.fewest(), fewest);
        b.due("soonest of " + text, x.soonest(), soonest);
    }

    private void overAGrudge() {
        b.sentence(Document.TERMS, "over an EDGE without GRUDGE both ends may change their GOODS (a HAND)");
        OneWire x = Check.made("w1;p001;p010");
        x.grudge(0, true);
        b.due("by the other edge", x.fewest(), 1);
        b.due("by the other edge", x.soonest(), 1);
        x.grudge(1, true);
        b.due("by none", x.fewest(), -9);
        b.due("by none", x.soonest(), -9);
        x.wish(0, 0);
        x.wish(1, 1);
        b.due("none is needed", x.fewest(), 0);
        b.due("none is needed", x.soonest(), 0);
    }

    private void noneIsNeeded() {
        b.sentence(Document.TERMS, "FEWEST: HANDS by which each HAS the GOOD it WISHES.");
        both("w0;p000;p000", 0, 0);
        both("w1;p011;p022;p033;p000;p011;p022;p033", 0, 0);
        both("w0;p001;p010", 1, 1);
    }

    private void theMostThatCanBe() {
        b.sentence(Document.TERMS, "HANDS by which each HAS the GOOD it WISHES");
        // Of two goods: three of one get past four of the other.
        both("w0;p001;p001;p001;p000;p010;p010;p010", 3 * 4, 6);
        // Of four goods: all pairs of seven change, but the three of like goods.
        both("w0;p003;p002;p012;p011;p021;p020;p030", 21 - 3, 6);
        both("w0;p003;p012;p021;p033;p021;p012;p030", 12, 6);
    }

    private void ofAnEarlierWireNothingIsLeft() {
        b.sentence(Document.TERMS, "A TEXT that is taken makes all anew");
        OneWire x = Check.made("w0;p001;p002;p003;p012;p013;p021;p032");
        b.due("seven", x.fewest(), -9);
        Check.wire(x, "w0;p001;p010");
        b.due("two", x.fewest(), 1);
        b.due("two", x.soonest(), 1);
        b.due("two", x.cut(0), 1);
        Check.wire(x, "w1;p001;p000;p010");
        b.due("three", x.fewest(), 1);
        b.due("three", x.soonest(), 1);
    }

    private void daysWithoutAPlaceInCommon() {
        b.sentence(Document.TERMS, "as on one DAY HANDS go over any EDGES no two of which have a PLACE in common");
        both("w0;p001;p010;p023;p032", 2, 1);
        both("w0;p001;p012;p020", 2, 2);
        both("w1;p001;p012;p020", 2, 2);
        // A loop's last edge and its first have PLACE 0 in common.
        both("w1;p003;p010;p022;p031", 2, 2);
        both("w1;p003;p012;p021;p030", 2, 1);
    }

    private void fewestCannotBe() {
        b.sentence(9, "FEWEST; NONE: it can't be.");
        b.due("one good too few", Check.made("w0;p001;p011").fewest(), -9);
        b.due("another good", Check.made("w0;p002;p011").fewest(), -9);
        OneWire x = Check.made("w0;p001;p000;p010");
        x.grudge(0, true);
        b.due("behind a wall", x.fewest(), -9);
        x.grudge(0, false);
        b.due("without the wall", x.fewest(), 2);
    }

    private void fewestWithoutAWire() {
        b.sentence(9, "STATE: there is no WIRE.");
        b.refused("no wire", Bound::nothing, OneWire::fewest, -3);
        b.refused("an answer changes nothing", Bound::loop, OneWire::fewest, 3);
    }

    private void soonestCannotBe() {
        b.sentence(10, "SOONEST; NONE: it can't be.");
        b.due("one good too few", Check.made("w0;p001;p011").soonest(), -9);
        OneWire x = Check.made("w1;p001;p000;p010");
        x.grudge(2, true);
        b.due("the long way", x.soonest(), 2);
        x.grudge(0, true);
        b.due("behind walls", x.soonest(), -9);
    }

    private void soonestWithoutAWire() {
        b.sentence(10, "STATE: there is no WIRE.");
        b.refused("no wire", Bound::nothing, OneWire::soonest, -3);
        b.refused("an answer changes nothing", Bound::loop, OneWire::soonest, 3);
    }

    private void cutIfItIsSo() {
        b.sentence(Document.TERMS, "CUT of an EDGE (there is no LOOP): of each GOOD how many more there are at PLACES"
            + " up to its lesser end than are WISHED there, if it is so, all together.");
        b.due("one of two is wished", Check.made("w0;p000;p001;p010").cut(1), 1);
        b.due("two of three are wished", Check.made("w0;p000;p000;p001;p010").cut(2), 1);
        b.due("as many", Check.made("w0;p011;p000").cut(0), 0);
        b.due("one more, one fewer", Check.made("w0;p001;p010").cut(0), 1);
        b.due("fewer is not taken off", Check.made("w0;p001;p001;p022").cut(1), 2);
        b.due("even if it can't be", Check.made("w0;p001;p002;p003").cut(1), 2);
        OneWire x = Check.made("w0;p003;p013;p023;p032;p031;p030");
        int[] due = {1, 2, 3, 2, 1};
        for (int e = 0; e < 5; e++) {
            b.due("cut " + e, x.cut(e), due[e]);
        }
    }

    private void refusalsOfCut() {
        b.sentence(11, "UNKNOWN: EDGE; STATE: it is a LOOP.");
        for (int e : Bound.beside(2)) {
            b.refused("edge " + e, Bound::line, x -> x.cut(e), -1);
        }
        for (int e : Bound.beside(4)) {
            b.refused("a loop's edge " + e, Bound::loop, x -> x.cut(e), -1);
        }
        for (int e = 0; e < 4; e++) {
            int edge = e;
            b.refused("a loop " + e, Bound::loop, x -> x.cut(edge), -3);
        }
        b.refused("no wire", Bound::nothing, x -> x.cut(0), -1);
        b.refused("an answer changes nothing", Bound::line, x -> x.cut(1), 1);
    }
}
