/** Promises 9 to 11: the fewest hands, the soonest, what must go over an edge. */
final class GoodsTest {
    private static final Check CHECK = new Check();

    public static void main(String[] args) {
        withoutAWire();
        both("w0;p000;p011", 0, 0);
        both("w0;p001;p010", 1, 1);
        both("w0;p001;p011", -9, -9);
        both("w0;p001;p010;p023;p032", 2, 1);
        both("w0;p003;p012;p021;p030", 6, 4);
        both("w1;p003;p012;p021;p030", 2, 1);
        both("w1;p001;p010", 1, 1);
        both("w0;p001;p012;p020", 2, 2);
        both("w0;p003;p003;p001;p011;p012;p032;p030", -9, -9);
        both("w0;p000;p001;p012;p023;p030", 3, 3);
        both("w1;p000;p001;p012;p023;p030", 3, 3);
        likeGoodsNeedNotPass();
        grudgesPart();
        nothingIsChanged();
        cuts();
        CHECK.end();
    }

    private static void withoutAWire() {
        OneWire x = new OneWire();
        CHECK.due("fewest without a wire", x.fewest(), -3);
        CHECK.due("soonest without a wire", x.soonest(), -3);
        CHECK.due("cut without a wire", x.cut(0), -1);
    }

    private static void both(String text, int fewest, int soonest) {
        OneWire x = Check.made(text);
        CHECK.due("fewest of " + text, x.fewest(), fewest);
        CHECK.due("soonest of " + text, x.soonest(), soonest);
    }

    private static void likeGoodsNeedNotPass() {
        both("w0;p000;p000;p001;p010;p000", 1, 1);
        both("w0;p001;p000;p000;p000;p000;p000;p010", 11 - 5, 6);
        both("w1;p001;p000;p000;p000;p000;p000;p010", 1, 1);
        both("w0;p001;p001;p001;p010;p010;p010", 9, 5);
    }

    private static void grudgesPart() {
        OneWire x = Check.made("w1;p001;p000;p000;p000;p000;p000;p010");
        x.grudge(6, true);
        CHECK.due("fewest the long way", x.fewest(), 6);
        CHECK.due("soonest the long way", x.soonest(), 6);
        x.grudge(3, true);
        CHECK.due("fewest parted", x.fewest(), -9);
        CHECK.due("soonest parted", x.soonest(), -9);
        OneWire parts = Check.made("w0;p001;p010;p023;p032");
        parts.grudge(1, true);
        CHECK.due("each part by itself", parts.fewest(), 2);
        CHECK.due("each part by itself", parts.soonest(), 1);
        OneWire two = Check.made("w1;p001;p010");
        two.grudge(1, true);
        CHECK.due("by the other edge", two.fewest(), 1);
        two.grudge(0, true);
        CHECK.due("by none", two.fewest(), -9);
    }

    private static void nothingIsChanged() {
        OneWire x = Check.made("w0;p001;p010");
        x.fewest();
        x.soonest();
        CHECK.due("has", x.ofPerson(0, 2), 0);
        CHECK.due("wishes", x.ofPerson(0, 3), 1);
        x.hand(0);
        CHECK.due("after a hand", x.fewest(), 0);
        x.wish(0, 0);
        CHECK.due("after a wish", x.soonest(), -9);
    }

    private static void cuts() {
        OneWire x = Check.made("w0;p001;p001;p011;p023;p010");
        int[] due = {1, 2, 2, 3};
        for (int e = 0; e < due.length; e++) {
            CHECK.due("cut " + e, x.cut(e), due[e]);
        }
        x.grudge(1, true);
        CHECK.due("a grudge is no matter", x.cut(1), 2);
        CHECK.due("cut unknown", x.cut(4), -1);
        CHECK.due("cut unknown", x.cut(-1), -1);
        OneWire loop = Check.made("w1;p001;p010");
        CHECK.due("cut of a loop", loop.cut(1), -3);
        CHECK.due("unknown ahead of a loop", loop.cut(2), -1);
        CHECK.due("more of two goods", Check.made("w0;p002;p013;p020;p031").cut(1), 2);
        CHECK.due("fewer is not counted", Check.made("w0;p000;p011;p000").cut(0), 0);
    }
}
