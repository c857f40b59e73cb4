/** The boundaries of part 2 and of promises 7 and 8: news, and what was said. */
final class BoundNews {
    private final Bound b;

    private BoundNews(Bound b) {
        this.b = b;
    }

    static void run(Bound bound) {
        BoundNews t = new BoundNews(bound);
        t.leastAndGreatest();
        t.itselfOnDayZero();
        t.onceAlone();
        t.grudgesAreWalls();
        t.twoOnOneDay();
        t.asItIs();
        t.byAHundred();
        t.never();
        t.refusalsOfNews();
        t.saidLeastAndGreatest();
        t.howManyWereSaid();
        t.fewerWereSaid();
        t.refusalsOfSaid();
    }

    private void leastAndGreatest() {
        b.sentence(Document.TERMS, "NEWS, a number 0 .. 99");
        OneWire x = Check.made("w0;p900;p900");
        for (int v = 0; v < 100; v++) {
            b.due("news " + v, x.news(0, v, 1, 0), v);
        }
        b.due("below", x.news(0, -1, 1, 0), -2);
        b.due("above", x.news(0, 100, 1, 0), -2);
    }

    private void itselfOnDayZero() {
        b.sentence(Document.TERMS, "who tells it has it on DAY 0.");
        OneWire x = Check.made("w1;t900;t900;t900");
        x.grudge(0, true);
        x.grudge(1, true);
        x.grudge(2, true);
        for (int p = 0; p < 3; p++) {
            b.due("has " + p, x.news(p, 99, p, 0), 99);
            b.due("day " + p, x.news(p, 99, p, 1), 0);
        }
    }

    private void onceAlone() {
        b.sentence(Document.TERMS, "the next DAY its neighbours over EDGES without GRUDGE have it, if they had none");
        OneWire x = Check.made("w1;g900;g900;g900;g900;g900;g900;g900");
        int[] days = {0, 1, 2, 3, 3, 2, 1};
        for (int p = 0; p < 7; p++) {
            b.due("day of " + p, x.news(0, 50, p, 1), days[p]);
            b.due("what " + p + " has", x.news(0, 50, p, 0), 50 + 9 * Math.max(days[p] - 1, 0));
        }
        OneWire line = Check.made("w0;g900;g900;g900;g900;g900;g900;g900");
        for (int p = 0; p < 7; p++) {
            b.due("day in a line", line.news(0, 50, p, 1), p);
        }
        b.due("from the last", line.news(6, 50, 0, 1), 6);
    }

    private void grudgesAreWalls() {
        b.sentence(Document.TERMS, "its neighbours over EDGES without GRUDGE have it");
        OneWire x = Check.made("w0;p000;p000;p000;p000");
        x.grudge(1, true);
        for (int from = 0; from < 4; from++) {
            for (int to = 0; to < 4; to++) {
                boolean parted = from / 2 != to / 2;
                b.due(from + " to " + to, x.news(from, 5, to, 1), parted ? -9 : Math.abs(from - to));
            }
        }
    }

    private void twoOnOneDay() {
        b.sentence(Document.TERMS, "(from two on one DAY: what the one at the lesser PLACE passes on)");
        OneWire four = Check.made("w1;g100;g200;g300;g400");
        int[] lesser = {2, 1, 2, 1};
        for (int from = 0; from < 4; from++) {
            b.due("over against " + from, four.news(from, 0, (from + 2) % 4, 0), lesser[from]);
            b.due("its day", four.news(from, 0, (from + 2) % 4, 1), 2);
        }
        OneWire six = Check.made("w1;g100;g200;g300;g400;g500;g600");
        // the two who pass it on stand beside the hearer; by the lesser's PLACE, not by its way
        int[] heard = {2 + 3, 1 + 6, 2 + 1, 2 + 3, 1 + 6, 1 + 2};
        for (int from = 0; from < 6; from++) {
            b.due("over against " + from, six.news(from, 0, (from + 3) % 6, 0), heard[from]);
        }
        OneWire two = Check.made("w1;g100;g200");
        b.due("both edges from one", two.news(0, 9, 1, 0), 9);
        b.due("both edges from one", two.news(1, 9, 0, 1), 1);
    }

    private void asItIs() {
        b.sentence(Document.TERMS, "Who tells it passes it on as it is");
        b.due("person", Check.made("w0;p900;p000").news(0, 99, 1, 0), 99);
        b.due("grudger", Check.made("w0;g900;p000").news(0, 99, 1, 0), 99);
        b.due("talker", Check.made("w0;t900;p000").news(0, 99, 1, 0), 99);
    }

    private void byAHundred() {
        b.sentence(Document.TERMS, "a PERSON not at all; a GRUDGER adds its STRENGTH;"
            + " a TALKER makes twice what a GRUDGER would make of it; each by 100, what is left.");
        for (int strength = 0; strength < 10; strength++) {
            OneWire person = Check.made("w0;p000;p" + strength + "00;p000");
            OneWire grudger = Check.made("w0;p000;g" + strength + "00;p000");
            OneWire talker = Check.made("w0;p000;t" + strength + "00;p000");
            for (int v = 0; v < 100; v++) {
                String told = strength + " of " + v;
                b.due("person " + told, person.news(0, v, 2, 0), v);
                b.due("grudger " + told, grudger.news(0, v, 2, 0), v + strength < 100 ? v + strength : v + strength - 100);
                b.due("talker " + told, talker.news(0, v, 2, 0), 2 * (v + strength) % 100);
            }
        }
        b.due("99 and 1", Check.made("w0;p000;g100;p000").news(0, 99, 2, 0), 0);
        b.due("twice 50", Check.made("w0;p000;t000;p000").news(0, 50, 2, 0), 0);
        b.due("twice 49", Check.made("w0;p000;t000;p000").news(0, 49, 2, 0), 98);
    }

    private void never() {
        b.sentence(7, "What one has, if another one (or itself) tells a number v (what 0), the DAY (1); NONE: never.");
        OneWire x = Bound.line();
        b.due("what", x.news(0, 1, 2, 0), -9);
        b.due("day", x.news(0, 1, 2, 1), -9);
        b.due("the way back", x.news(2, 1, 0, 0), -9);
        b.due("itself", x.news(2, 1, 2, 0), 1);
        b.due("itself, day", x.news(2, 1, 2, 1), 0);
    }

    private void refusalsOfNews() {
        b.sentence(7, "UNKNOWN: PERSONS; OUTSIDE: v (0 .. 99), what.");
        for (int p : Bound.beside(3)) {
            b.refused("from " + p, Bound::line, x -> x.news(p, 0, 0, 0), -1);
            b.refused("to " + p, Bound::line, x -> x.news(0, 0, p, 0), -1);
            b.refused("to " + p + " ahead of v", Bound::line, x -> x.news(0, 100, p, 2), -1);
            b.refused("from " + p + " ahead of what", Bound::line, x -> x.news(p, -1, 0, -1), -1);
        }
        for (int v : Bound.beside(100)) {
            b.refused("v " + v, Bound::line, x -> x.news(0, v, 1, 0), -2);
            b.refused("v to itself " + v, Bound::line, x -> x.news(0, v, 0, 1), -2);
        }
        for (int what : Bound.beside(2)) {
            b.refused("what " + what, Bound::line, x -> x.news(0, 0, 1, what), -2);
        }
        b.refused("no wire", Bound::nothing, x -> x.news(0, 0, 0, 0), -1);
        b.refused("an answer changes nothing", Bound::loop, x -> x.news(0, 5, 3, 0), 5);
    }

    private void saidLeastAndGreatest() {
        b.sentence(Document.TERMS, "SAID: numbers 0 .. 99 by which, told by one, another one has a told number.");
        OneWire x = Check.made("w0;p000;g100;p000");
        b.due("the greatest wraps", x.said(0, 2, 0, 0), 99);
        b.due("the least", x.said(0, 2, 1, 0), 0);
        b.due("one alone", x.said(0, 2, 0, -1), 1);
        for (int v = 0; v < 100; v++) {
            b.due("by itself", x.said(1, 1, v, 0), v);
        }
    }

    private void howManyWereSaid() {
        b.sentence(8, "SAID by one, by what another one has (0 .. 99): how many (k -1), the k-th, rising;");
        OneWire x = Check.made("w0;p000;t000;t000;p000");
        b.due("four", x.said(0, 3, 0, -1), 4);
        for (int k = 0; k < 4; k++) {
            b.due("the " + k + "-th", x.said(0, 3, 0, k), 25 * k);
        }
        b.due("fewer", x.said(0, 3, 0, 4), -9);
        b.due("far fewer", x.said(0, 3, 0, Bound.MOST), -9);
        b.due("none", x.said(0, 3, 99, -1), 0);
        b.due("no 0-th", x.said(0, 3, 99, 0), -9);
    }

    private void fewerWereSaid() {
        b.sentence(8, "NONE: there are fewer.");
        OneWire x = Bound.line();
        b.due("over a wall, how many", x.said(0, 2, 0, -1), 0);
        b.due("over a wall", x.said(0, 2, 0, 0), -9);
        b.due("one", x.said(0, 1, 0, 0), 0);
        b.due("no second", x.said(0, 1, 0, 1), -9);
    }

    private void refusalsOfSaid() {
        b.sentence(8, "UNKNOWN: PERSONS, k below -1; OUTSIDE: v.");
        for (int p : Bound.beside(3)) {
            b.refused("from " + p, Bound::line, x -> x.said(p, 0, 0, 0), -1);
            b.refused("to " + p, Bound::line, x -> x.said(0, p, 0, 0), -1);
            b.refused("from " + p + " ahead of v", Bound::line, x -> x.said(p, 0, 100, 0), -1);
            b.refused("to " + p + " ahead of v", Bound::line, x -> x.said(0, p, 100, 0), -1);
        }
        b.refused("k -2", Bound::line, x -> x.said(0, 1, 0, -2), -1);
        b.refused("k far below", Bound::line, x -> x.said(0, 1, 0, Bound.LEAST), -1);
        b.refused("k ahead of v", Bound::line, x -> x.said(0, 1, 100, -2), -1);
        for (int v : Bound.beside(100)) {
            b.refused("v " + v, Bound::line, x -> x.said(0, 1, v, 0), -2);
            b.refused("v, how many " + v, Bound::line, x -> x.said(0, 1, v, -1), -2);
        }
        b.refused("v NONE over a wall", Bound::line, x -> x.said(0, 2, -9, -1), -2);
        b.refused("no wire", Bound::nothing, x -> x.said(0, 0, 0, -1), -1);
        b.refused("an answer changes nothing", Bound::line, x -> x.said(0, 1, 99, 0), 99);
    }
}
