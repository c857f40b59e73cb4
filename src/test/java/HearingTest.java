/** Promises 15 to 20: tearing, where to stand, readings and what is known by them. */
final class HearingTest {
    private static final Check CHECK = new Check();

    public static void main(String[] args) {
        sharesOfALine();
        sharesOfALoop();
        sharesByGrudges();
        refusalsOfHeard();
        whereToStand();
        readingsAreNumbered();
        refusalsOfReading();
        takingBack();
        whichKind();
        whichWalls();
        CHECK.end();
    }

    private static void share(OneWire x, int p, int g, long upper, long lower) {
        CHECK.due("upper of " + p + " by " + g, x.heard(p, g, 0), upper);
        CHECK.due("lower of " + p + " by " + g, x.heard(p, g, 1), lower);
    }

    private static void sharesOfALine() {
        OneWire x = Check.made("w0;p000;p000;p000");
        share(x, 0, 0, 2, 1);
        share(x, 0, 10, 0, 1);
        share(x, 0, 1, 171, 100);
        share(x, 1, 1, 9, 5);
        share(x, 2, 1, 171, 100);
        share(x, 0, 9, 11, 100);
        OneWire seven = Check.made("w0;p000;p000;p000;p000;p000;p000;p000");
        share(seven, 0, 3, 2058819, 1000000);
        share(seven, 3, 5, 7, 4);
    }

    private static void sharesOfALoop() {
        share(Check.made("w1;p000;p000"), 0, 5, 3, 4);
        share(Check.made("w1;p000;p000"), 1, 1, 99, 100);
        share(Check.made("w1;p000;p000;p000"), 2, 5, 5, 4);
        share(Check.made("w1;p000;p000;p000;p000;p000;p000;p000"), 4, 10, 0, 1);
        share(Check.made("w1;p000;p000;p000;p000;p000;p000;p000"), 4, 0, 6, 1);
    }

    private static void sharesByGrudges() {
        OneWire x = Check.made("w1;p000;p000;p000");
        x.grudge(2, true);
        share(x, 0, 5, 3, 4);
        share(x, 1, 5, 1, 1);
        x.grudge(0, true);
        share(x, 0, 5, 0, 1);
        share(x, 0, 0, 0, 1);
        share(x, 1, 3, 7, 10);
    }

    private static void refusalsOfHeard() {
        CHECK.due("no wire", new OneWire().heard(0, 0, 0), OneWire.LOST);
        OneWire x = Check.made("w0;p000;p000");
        x.put(0, 0, 0);
        CHECK.due("unknown", x.heard(2, 0, 0), OneWire.LOST);
        CHECK.due("unknown", x.heard(-1, 0, 0), OneWire.LOST);
        CHECK.due("g", x.heard(0, 11, 0), OneWire.LOST);
        CHECK.due("g", x.heard(0, -1, 0), OneWire.LOST);
        CHECK.due("which", x.heard(0, 0, 2), OneWire.LOST);
        CHECK.due("which", x.heard(0, 0, -1), OneWire.LOST);
        CHECK.due("names no faults", x.fault(), 1);
    }

    private static void whereToStand() {
        CHECK.due("outside ahead of no wire", new OneWire().stand(11), -2);
        CHECK.due("no wire", new OneWire().stand(10), -3);
        OneWire x = Check.made("w0;p000;p000;p000;p000;p000;p000");
        CHECK.due("outside", x.stand(-1), -2);
        CHECK.due("outside", x.stand(11), -2);
        CHECK.due("all are alike", x.stand(0), 0);
        CHECK.due("none hears", x.stand(10), 0);
        CHECK.due("the lesser of the middle", x.stand(4), 2);
        x.grudge(1, true);
        CHECK.due("the middle of the right", x.stand(4), 3);
        CHECK.due("the first of the right", x.stand(0), 2);
        CHECK.due("a loop", Check.made("w1;p000;p000;p000;p000").stand(3), 0);
    }

    private static void readingsAreNumbered() {
        CHECK.due("no wire", new OneWire().reading(0, 0, 0, 0), -1);
        OneWire x = Check.made("w0;p000;p000");
        for (int k = 0; k < 8; k++) {
            CHECK.due("reading", x.reading(0, k, 1, k), k);
        }
        CHECK.due("full", x.reading(0, 0, 1, 0), -4);
        CHECK.due("unknown ahead of full", x.reading(2, 0, 1, 0), -1);
        CHECK.due("outside ahead of full", x.reading(0, 0, 1, 100), -2);
        CHECK.due("eight", x.many(3), 8);
        CHECK.due("back", x.back(3), 5);
        CHECK.due("number again", x.reading(0, 0, 1, 0), 5);
    }

    private static void refusalsOfReading() {
        OneWire x = Check.made("w0;p000;p000");
        CHECK.due("from", x.reading(2, 100, 0, 100), -1);
        CHECK.due("from", x.reading(-1, 0, 0, 0), -1);
        CHECK.due("to", x.reading(0, 100, 2, 100), -1);
        CHECK.due("to", x.reading(0, 0, -1, 0), -1);
        CHECK.due("v", x.reading(0, 100, 1, 0), -2);
        CHECK.due("v", x.reading(0, -1, 1, 0), -2);
        CHECK.due("v NONE", x.reading(0, -9, 1, 0), -2);
        CHECK.due("x", x.reading(0, 0, 1, 100), -2);
        CHECK.due("x", x.reading(0, 0, 1, -1), -2);
        CHECK.due("none taken", x.many(3), 0);
        CHECK.due("x 99", x.reading(0, 99, 1, 99), 0);
        CHECK.due("x NONE", x.reading(0, 0, 1, -9), 1);
    }

    private static void takingBack() {
        CHECK.due("none", new OneWire().back(0), 0);
        CHECK.due("none", new OneWire().back(1), -2);
        OneWire x = Check.made("w0;p000;g500;p000");
        x.reading(0, 1, 2, 6);
        x.reading(0, 1, 2, 7);
        CHECK.due("can't be", x.kinds(1), 0);
        CHECK.due("below 0", x.back(-1), -2);
        CHECK.due("too many", x.back(3), -2);
        CHECK.due("none back", x.back(0), 2);
        CHECK.due("the last back", x.back(1), 1);
        CHECK.due("the first stays", x.kinds(1), 2);
        CHECK.due("all back", x.back(1), 0);
        CHECK.due("all can be", x.kinds(1), 7);
    }

    private static void whichKind() {
        CHECK.due("no wire", new OneWire().kinds(0), -1);
        OneWire x = Check.made("w0;p000;p500;p000");
        CHECK.due("unknown", x.kinds(3), -1);
        CHECK.due("unknown", x.kinds(-1), -1);
        x.reading(0, 1, 2, 12);
        CHECK.due("a talker", x.kinds(1), 4);
        CHECK.due("not by another one", x.kinds(0), 0);
        CHECK.due("its kind stays", x.ofPerson(1, 0), 0);
        CHECK.due("its news stay", x.news(0, 1, 2, 0), 1);
        OneWire still = Check.made("w0;p000;p000;p000");
        still.reading(0, 7, 2, 7);
        CHECK.due("person or grudger of none", still.kinds(1), 3);
        still.reading(0, 0, 2, 0);
        CHECK.due("still", still.kinds(1), 3);
        still.grudge(0, true);
        CHECK.due("none heard it", still.kinds(1), 0);
        still.back(2);
        still.reading(0, 7, 2, -9);
        CHECK.due("none at all", still.kinds(1), 7);
    }

    private static void whichWalls() {
        CHECK.due("no wire", new OneWire().walls(), -3);
        OneWire x = Check.made("w1;g100;g200;g300;g400");
        CHECK.due("without readings", x.walls(), 15);
        x.reading(0, 0, 3, 5);
        CHECK.due("the long way", x.walls(), 8);
        CHECK.due("no grudge stays", x.many(2), 0);
        x.grudge(3, true);
        CHECK.due("as it is", x.walls(), 8);
        CHECK.due("its grudge stays", x.many(2), 1);
        x.back(1);
        x.reading(0, 0, 3, -9);
        CHECK.due("parted", x.walls(), 7);
        x.reading(0, 0, 1, 0);
        CHECK.due("not the first", x.walls(), 6);
        OneWire two = Check.made("w0;p000;p000");
        CHECK.due("one edge", two.walls(), 1);
    }
}
