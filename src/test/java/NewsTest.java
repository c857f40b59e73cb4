/** Promises 7 and 8: what one has and since when, and what was said. */
final class NewsTest {
    private static final Check CHECK = new Check();

    public static void main(String[] args) {
        eachAltersInItsWay();
        whoTellsDoesNotAlter();
        grudgesAreWalls();
        ofTwoTheLesserPlaceIsHeard();
        aLoopOfTwo();
        refusalsOfNews();
        whatWasSaid();
        refusalsOfSaid();
        CHECK.end();
    }

    private static void eachAltersInItsWay() {
        CHECK.due("person", Check.made("w0;p000;p700;p000").news(0, 95, 2, 0), 95);
        CHECK.due("grudger", Check.made("w0;p000;g700;p000").news(0, 95, 2, 0), 2);
        CHECK.due("grudger to 100", Check.made("w0;p000;g500;p000").news(0, 95, 2, 0), 0);
        CHECK.due("talker", Check.made("w0;p000;t700;p000").news(0, 95, 2, 0), 4);
        CHECK.due("talker", Check.made("w0;p000;t900;p000").news(0, 60, 2, 0), 38);
        CHECK.due("talker at 99", Check.made("w0;p000;t000;p000").news(0, 99, 2, 0), 98);
        OneWire x = Check.made("w0;p000;g300;t400;p500;g600");
        CHECK.due("all", x.news(0, 10, 4, 0), 34);
        CHECK.due("all's day", x.news(0, 10, 4, 1), 4);
        CHECK.due("all back", x.news(4, 10, 0, 0), 31);
        CHECK.due("all back's day", x.news(4, 10, 0, 1), 4);
    }

    private static void whoTellsDoesNotAlter() {
        OneWire x = Check.made("w0;t900;t900");
        CHECK.due("to the next", x.news(0, 50, 1, 0), 50);
        CHECK.due("to itself", x.news(0, 50, 0, 0), 50);
        CHECK.due("to itself, day", x.news(0, 50, 0, 1), 0);
    }

    private static void grudgesAreWalls() {
        OneWire x = Check.made("w1;g100;g200;g300;g400");
        CHECK.due("one step", x.news(0, 0, 3, 1), 1);
        x.grudge(3, true);
        CHECK.due("the long way, day", x.news(0, 0, 3, 1), 3);
        CHECK.due("the long way", x.news(0, 0, 3, 0), 5);
        x.grudge(1, true);
        CHECK.due("never", x.news(0, 0, 3, 0), -9);
        CHECK.due("never, day", x.news(0, 0, 3, 1), -9);
        CHECK.due("itself still", x.news(0, 4, 0, 0), 4);
        CHECK.due("up to the wall", x.news(0, 4, 1, 0), 4);
    }

    private static void ofTwoTheLesserPlaceIsHeard() {
        OneWire x = Check.made("w1;g100;g200;g300;g400");
        CHECK.due("0 to 2 by 1", x.news(0, 0, 2, 0), 2);
        CHECK.due("1 to 3 by 0", x.news(1, 0, 3, 0), 1);
        CHECK.due("2 to 0 by 1", x.news(2, 0, 0, 0), 2);
        CHECK.due("3 to 1 by 0", x.news(3, 0, 1, 0), 1);
        CHECK.due("two days", x.news(3, 0, 1, 1), 2);
        OneWire six = Check.made("w1;g100;g200;g300;g400;g500;g600");
        CHECK.due("0 to 3 by 1 and 2", six.news(0, 0, 3, 0), 5);
        CHECK.due("3 to 0 by 2 and 1", six.news(3, 0, 0, 0), 5);
        CHECK.due("5 to 2 by 0 and 1", six.news(5, 0, 2, 0), 3);
    }

    private static void aLoopOfTwo() {
        OneWire x = Check.made("w1;g100;g200");
        CHECK.due("two", x.news(0, 7, 1, 0), 7);
        x.grudge(0, true);
        CHECK.due("by the other edge", x.news(0, 7, 1, 1), 1);
        x.grudge(1, true);
        CHECK.due("never", x.news(0, 7, 1, 1), -9);
    }

    private static void refusalsOfNews() {
        OneWire x = Check.made("w0;p000;p000");
        CHECK.due("from", x.news(2, 100, 0, 5), -1);
        CHECK.due("from", x.news(-1, 0, 0, 0), -1);
        CHECK.due("to", x.news(0, 100, 2, 5), -1);
        CHECK.due("to", x.news(0, 0, -1, 0), -1);
        CHECK.due("v", x.news(0, -1, 1, 0), -2);
        CHECK.due("v", x.news(0, 100, 1, 0), -2);
        CHECK.due("v 99", x.news(0, 99, 1, 0), 99);
        CHECK.due("what", x.news(0, 0, 1, 2), -2);
        CHECK.due("what", x.news(0, 0, 1, -1), -2);
    }

    private static void whatWasSaid() {
        OneWire x = Check.made("w0;p000;t500;t000;p000");
        // 4 times what is told, and 20, by 100
        CHECK.due("how many", x.said(0, 3, 20, -1), 4);
        for (int k = 0; k < 4; k++) {
            CHECK.due("said " + k, x.said(0, 3, 20, k), 25 * k);
        }
        CHECK.due("no fifth", x.said(0, 3, 20, 4), -9);
        CHECK.due("none", x.said(0, 3, 21, -1), 0);
        CHECK.due("no first", x.said(0, 3, 21, 0), -9);
        CHECK.due("by itself", x.said(2, 2, 99, 0), 99);
        x.grudge(1, true);
        CHECK.due("over a wall", x.said(0, 3, 20, -1), 0);
        CHECK.due("over a wall", x.said(0, 3, 20, 0), -9);
    }

    private static void refusalsOfSaid() {
        OneWire x = Check.made("w0;p000;p000");
        CHECK.due("from", x.said(2, 0, 100, 0), -1);
        CHECK.due("to", x.said(0, 2, 100, 0), -1);
        CHECK.due("from", x.said(-1, 0, 0, 0), -1);
        CHECK.due("to", x.said(0, -1, 0, 0), -1);
        CHECK.due("k", x.said(0, 1, 100, -2), -1);
        CHECK.due("v", x.said(0, 1, 100, 0), -2);
        CHECK.due("v", x.said(0, 1, -1, 0), -2);
        CHECK.due("v NONE", x.said(0, 1, -9, 0), -2);
        CHECK.due("far k", x.said(0, 1, 5, Integer.MAX_VALUE), -9);
    }
}
