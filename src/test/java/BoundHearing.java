/** The boundaries of part 5 and of promises 15 to 20: tearing, where to stand, readings. */
final class BoundHearing {
    private final Bound b;

    private BoundHearing(Bound b) {
        this.b = b;
    }

    static void run(Bound bound) {
        BoundHearing t = new BoundHearing(bound);
        t.sureAndNever();
        t.eachByItself();
        t.howManyOthers();
        t.upperAndLower();
        t.refusalsOfHeard();
        t.theLeastOfSeveral();
        t.refusalsOfStand();
        t.eightReadings();
        t.noneAtAll();
        t.refusalsOfReading();
        t.backFromNoneToAll();
        t.refusalsOfBack();
        t.noKindAndAllKinds();
        t.refusalsOfKinds();
        t.noWallAndAllWalls();
        t.wallsWithoutAWire();
    }

    private void share(OneWire x, int p, int g, long upper, long lower) {
        b.due("upper of " + p + " by " + g, x.heard(p, g, 0), upper);
        b.due("lower of " + p + " by " + g, x.heard(p, g, 1), lower);
    }

    private void sureAndNever() {
        b.sentence(Document.TERMS, "each EDGE without GRUDGE tears with g tenths of likelihood (0 .. 10)");
        for (int persons = 2; persons <= 7; persons++) {
            for (int loop = 0; loop < 2; loop++) {
                OneWire x = Check.made(Bound.text(loop == 1, persons));
                for (int p = 0; p < persons; p++) {
                    share(x, p, 0, persons - 1, 1);
                    share(x, p, 10, 0, 1);
                }
            }
        }
        OneWire two = Check.made("w0;p000;p000");
        long[][] due = {{1, 1}, {9, 10}, {4, 5}, {7, 10}, {3, 5}, {1, 2}, {2, 5}, {3, 10}, {1, 5}, {1, 10}, {0, 1}};
        for (int g = 0; g <= 10; g++) {
            share(two, 0, g, due[g][0], due[g][1]);
        }
    }

    private void eachByItself() {
        b.sentence(Document.TERMS, "each by itself; news goes over those that are whole.");
        share(Check.made("w1;p000;p000"), 0, 5, 3, 4);
        share(Check.made("w0;p000;p000;p000"), 0, 5, 3, 4);
        // 1/2 + 1/4 - 1/8, twice
        share(Check.made("w1;p000;p000;p000"), 0, 5, 5, 4);
        share(Check.made("w0;p000;p000;p000;p000;p000;p000;p000"), 0, 9, 111111, 1000000);
        share(Check.made("w1;p000;p000;p000;p000;p000;p000;p000"), 0, 9, 1111107, 5000000);
        OneWire x = Check.made("w1;p000;p000;p000");
        x.grudge(0, true);
        share(x, 0, 5, 3, 4);
        x.grudge(2, true);
        share(x, 0, 5, 0, 1);
        share(x, 0, 0, 0, 1);
        x.grudge(1, true);
        share(x, 1, 0, 0, 1);
    }

    private void howManyOthers() {
        b.sentence(Document.TERMS, "HEARD of a PERSON: how many others news from it come to, in the mean, as a share.");
        share(Check.made("w0;p000;p000"), 0, 0, 1, 1);
        share(Check.made("w0;p000;p000;p000"), 1, 0, 2, 1);
        share(Check.made("w0;p000;p000;p000"), 1, 5, 1, 1);
        share(Bound.line(), 0, 0, 1, 1);
        share(Bound.line(), 2, 0, 0, 1);
    }

    private void upperAndLower() {
        b.sentence(15, "HEARD (which 0 the upper, 1 the lower number).");
        OneWire x = Check.made("w0;p000;p000");
        b.due("upper", x.heard(0, 2, 0), 4);
        b.due("lower", x.heard(0, 2, 1), 5);
    }

    private void refusalsOfHeard() {
        b.sentence(15, "LOST: UNKNOWN: PERSON; OUTSIDE: g, which.");
        for (int p : Bound.beside(3)) {
            b.refused("person " + p, Bound::line, x -> x.heard(p, 0, 0), OneWire.LOST);
        }
        for (int g : Bound.beside(11)) {
            b.refused("g " + g, Bound::line, x -> x.heard(0, g, 0), OneWire.LOST);
        }
        for (int which : Bound.beside(2)) {
            b.refused("which " + which, Bound::line, x -> x.heard(0, 0, which), OneWire.LOST);
        }
        b.refused("no wire", Bound::nothing, x -> x.heard(0, 0, 0), OneWire.LOST);
        b.refused("an answer changes nothing", Bound::line, x -> x.heard(0, 10, 1), 1);
    }

    private void theLeastOfSeveral() {
        b.sentence(Document.TERMS, "STAND: the PERSON that is HEARD by the most: of several the least.");
        for (int persons = 2; persons <= 7; persons++) {
            OneWire line = Check.made(Bound.text(false, persons));
            OneWire loop = Check.made(Bound.text(true, persons));
            for (int g = 0; g <= 10; g++) {
                b.due("a loop of " + persons, loop.stand(g), 0);
                b.due("a line of " + persons + " by " + g, line.stand(g), g == 0 || g == 10 ? 0 : (persons - 1) / 2);
            }
        }
        OneWire x = Check.made(Bound.text(false, 7));
        x.grudge(2, true);
        b.due("the greater part", x.stand(0), 3);
        b.due("the lesser of its middle", x.stand(1), 4);
        OneWire halves = Check.made(Bound.text(false, 6));
        halves.grudge(2, true);
        b.due("two parts alike", halves.stand(0), 0);
        b.due("two parts alike", halves.stand(5), 1);
    }

    private void refusalsOfStand() {
        b.sentence(16, "STAND. OUTSIDE: g; STATE: there is no WIRE.");
        for (int g : Bound.beside(11)) {
            b.refused("g " + g, Bound::line, x -> x.stand(g), -2);
            b.refused("g ahead of no wire " + g, Bound::nothing, x -> x.stand(g), -2);
        }
        b.refused("no wire", Bound::nothing, x -> x.stand(0), -3);
        b.refused("no wire", Bound::nothing, x -> x.stand(10), -3);
        b.refused("an answer changes nothing", Bound::line, x -> x.stand(5), 0);
    }

    private void eightReadings() {
        b.sentence(Document.TERMS, "READINGS, 8 at most, numbered by how many there are");
        OneWire x = Check.made("w0;p000;p000");
        for (int k = 0; k < 8; k++) {
            b.due("its number", x.reading(0, 0, 1, 0), k);
            b.due("how many", x.many(3), k + 1);
        }
        b.due("no ninth", x.reading(0, 0, 1, 0), -4);
        b.due("how many", x.many(3), 8);
        b.due("one back", x.back(1), 7);
        b.due("its number again", x.reading(0, 0, 1, 0), 7);
        b.due("no ninth", x.reading(0, 0, 1, 0), -4);
    }

    private void noneAtAll() {
        b.sentence(Document.TERMS, "if one told a number, another one had a told one, or had none at all.");
        OneWire x = Check.made("w0;p000;p000");
        x.grudge(0, true);
        b.due("had none", x.reading(0, 0, 1, -9), 0);
        b.due("so it is", x.kinds(0), 7);
        b.due("so it is", x.walls(), 1);
        x.grudge(0, false);
        b.due("it had some", x.kinds(0), 0);
        b.due("but behind a wall", x.walls(), 1);
        b.due("it had one", x.reading(0, 0, 1, 0), 1);
        b.due("not both", x.walls(), 0);
    }

    private void refusalsOfReading() {
        b.sentence(17, "A READING: its number (x NONE: had none at all). UNKNOWN: PERSONS; OUTSIDE: v, x (0 .. 99); FULL.");
        for (int p : Bound.beside(3)) {
            b.refused("from " + p, Bound::line, x -> x.reading(p, 0, 0, 0), -1);
            b.refused("to " + p, Bound::line, x -> x.reading(0, 0, p, 0), -1);
            b.refused("from ahead of v " + p, Bound::full, x -> x.reading(p, 100, 0, 100), -1);
            b.refused("to ahead of v " + p, Bound::full, x -> x.reading(0, 100, p, 100), -1);
        }
        int[] noNumbers = {-1, 100, Bound.LEAST, Bound.MOST, -8, -10};
        for (int v : noNumbers) {
            b.refused("v " + v, Bound::line, x -> x.reading(0, v, 1, 0), -2);
            b.refused("x " + v, Bound::line, x -> x.reading(0, 0, 1, v), -2);
            b.refused("v ahead of full " + v, Bound::full, x -> x.reading(0, v, 1, 0), -2);
            b.refused("x ahead of full " + v, Bound::full, x -> x.reading(0, 0, 1, v), -2);
        }
        b.refused("v NONE", Bound::line, x -> x.reading(0, -9, 1, 0), -2);
        b.refused("full", Bound::full, x -> x.reading(0, 0, 1, 0), -4);
        b.refused("full, none at all", Bound::full, x -> x.reading(0, 0, 1, -9), -4);
        b.refused("no wire", Bound::nothing, x -> x.reading(0, 0, 0, 0), -1);
        OneWire x = Bound.line();
        b.due("the least", x.reading(0, 0, 1, 0), 1);
        b.due("the greatest", x.reading(0, 99, 1, 99), 2);
        b.due("none at all", x.reading(0, 99, 1, -9), 3);
        b.due("of itself", x.reading(1, 5, 1, 5), 4);
    }

    private void backFromNoneToAll() {
        b.sentence(18, "The last k READINGS (0 .. as many as there are) are taken back: how many are left.");
        for (int k = 0; k <= 8; k++) {
            OneWire x = Bound.full();
            b.due("back " + k, x.back(k), 8 - k);
            b.due("left", x.many(3), 8 - k);
            b.due("no more than are left", x.back(9 - k), -2);
            b.due("none again", x.back(0), 8 - k);
        }
        b.due("none of none", new OneWire().back(0), 0);
        OneWire x = Check.made("w0;p000;g500;p000");
        x.reading(0, 1, 2, 6);
        x.reading(0, 1, 2, 99);
        b.due("not so", x.kinds(1), 0);
        x.back(1);
        b.due("the last was taken back", x.kinds(1), 2);
    }

    private void refusalsOfBack() {
        b.sentence(18, "OUTSIDE.");
        for (int k : Bound.beside(2)) {
            b.refused("back " + k, Bound::line, x -> x.back(k), -2);
        }
        for (int k : Bound.beside(9)) {
            b.refused("back of all " + k, Bound::full, x -> x.back(k), -2);
        }
        for (int k : Bound.beside(1)) {
            b.refused("back of none " + k, Bound::nothing, x -> x.back(k), -2);
        }
        b.refused("none back", Bound::line, x -> x.back(0), 1);
    }

    private void noKindAndAllKinds() {
        b.sentence(Document.TERMS, "KINDS of a PERSON: those (0 .. 2), in place of its own, by which all READINGS are so, as a set.");
        OneWire x = Check.made("w0;p000;t500;p000");
        b.due("all, without readings", x.kinds(1), 7);
        x.reading(0, 1, 2, 1);
        b.due("a person", x.kinds(1), 1);
        x.back(1);
        x.reading(0, 1, 2, 6);
        b.due("a grudger", x.kinds(1), 2);
        x.back(1);
        x.reading(0, 1, 2, 12);
        b.due("a talker", x.kinds(1), 4);
        x.reading(0, 1, 2, 6);
        b.due("none", x.kinds(1), 0);
        b.due("its own stays", x.ofPerson(1, 0), 2);
        b.due("its news stay", x.news(0, 1, 2, 0), 12);
        OneWire wraps = Check.made("w0;p000;p500;p000");
        wraps.reading(0, 95, 2, 0);
        b.due("by 100: grudger, talker", wraps.kinds(1), 6);
    }

    private void refusalsOfKinds() {
        b.sentence(19, "KINDS, as a set. UNKNOWN.");
        for (int p : Bound.beside(3)) {
            b.refused("person " + p, Bound::line, x -> x.kinds(p), -1);
        }
        b.refused("no wire", Bound::nothing, x -> x.kinds(0), -1);
        for (int p = 0; p < 3; p++) {
            int person = p;
            b.refused("an answer changes nothing", Bound::full, x -> x.kinds(person), 7);
        }
    }

    private void noWallAndAllWalls() {
        b.sentence(Document.TERMS, "WALLS: EDGES such that, with one GRUDGE more there, all READINGS are so,"
            + " as a set (where there is one already: as it is).");
        OneWire x = Check.made(Bound.text(true, 7));
        b.due("all, without readings", x.walls(), 127);
        x.reading(0, 1, 6, 1);
        b.due("all: the other way", x.walls(), 127);
        x.grudge(6, true);
        b.due("the one that is there", x.walls(), 64);
        x.reading(0, 1, 3, -9);
        b.due("none", x.walls(), 0);
        b.due("one grudge still", x.many(2), 1);
        x.back(2);
        x.reading(0, 1, 3, -9);
        b.due("on the way", x.walls(), 7);
        x.grudge(6, false);
        b.due("one is too few", x.walls(), 0);
        b.due("no grudge still", x.many(2), 0);
    }

    private void wallsWithoutAWire() {
        b.sentence(20, "WALLS, as a set. STATE: there is no WIRE.");
        b.refused("no wire", Bound::nothing, OneWire::walls, -3);
        b.refused("an answer changes nothing", Bound::full, OneWire::walls, 2);
    }
}
