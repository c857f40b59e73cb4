/** Promises 12 to 14: orders that can come, and weddings by letters. */
final class OrdersTest {
    private static final Check CHECK = new Check();

    public static void main(String[] args) {
        changesAndBars();
        aLoopAndGrudgesAreNoMatter();
        refusalsAndFaultsOfOrder();
        comings();
        lettersOfALine();
        lettersOfALoop();
        theFirstOfSeveral();
        notToBePaired();
        refusalsOfLetters();
        CHECK.end();
    }

    private static void ask(OneWire x, int changes, int bar, int... order) {
        Check.row(x, 1, 2, order);
        String told = java.util.Arrays.toString(order);
        CHECK.due("changes to " + told, x.order(1, 2, 0, order.length, 0), changes);
        CHECK.due("bars of " + told, x.order(1, 2, 0, order.length, 1), bar);
        CHECK.due("no fault of " + told, x.fault(), 0);
    }

    private static void changesAndBars() {
        OneWire x = Check.made("w0;p300;g400;t400;p200");
        ask(x, 0, -9, 0, 1, 2, 3);
        ask(x, 1, -9, 1, 0, 2, 3);
        ask(x, 3, -9, 2, 1, 0, 3);
        ask(x, 2, -9, 1, 2, 0, 3);
        ask(x, -9, 23, 0, 1, 3, 2);
        ask(x, -9, 3, 3, 2, 1, 0);
        ask(x, -9, 13, 0, 3, 1, 2);
        OneWire falling = Check.made("w0;p300;p200;p100");
        ask(falling, -9, 1, 2, 1, 0);
        ask(falling, -9, 2, 2, 0, 1);
        ask(falling, -9, 12, 0, 2, 1);
        OneWire rising = Check.made("w0;p100;p200;p300;p400;p500;p600;p700");
        ask(rising, 21, -9, 6, 5, 4, 3, 2, 1, 0);
        ask(rising, 6, -9, 1, 2, 3, 4, 5, 6, 0);
    }

    private static void aLoopAndGrudgesAreNoMatter() {
        OneWire x = Check.made("w1;p100;p200;p300");
        x.grudge(0, true);
        x.grudge(1, true);
        ask(x, 3, -9, 2, 1, 0);
        OneWire falling = Check.made("w1;p300;p200;p100");
        ask(falling, -9, 1, 2, 1, 0);
        CHECK.due("one alone", falling.coming(), 1);
    }

    private static void refusalsAndFaultsOfOrder() {
        OneWire x = new OneWire();
        Check.row(x, 0, 1, 1, 0, 2, 0, 1, 1, -1);
        CHECK.due("without a wire", x.order(0, 1, 0, 2, 0), -3);
        CHECK.due("fault ahead of the wire", x.order(0, 0, 0, 2, 0), -12);
        CHECK.due("refused: no fault", x.order(0, 1, 0, 99, 2), -2);
        CHECK.due("refused: no fault", x.fault(), 0);
        Check.wire(x, "w0;p000;p000");
        int[][] calls = {
            {4, 3, 0, 2, 2, -1, 0}, {-1, 1, 0, 2, 0, -1, 0}, {0, 3, 0, -1, 0, -2, 0}, {0, -1, 0, 2, 0, -2, 0},
            {0, 0, 0, 2, 2, -2, 0}, {0, 0, 0, 2, -1, -2, 0}, {0, 0, 9, -1, 0, -12, 2}, {1, 0, 9, -1, 0, -11, 1},
            {0, 1, 9, -1, 0, -14, 4}, {0, 1, 6, 2, 0, -13, 3}, {0, 1, -1, 2, 0, -13, 3}, {0, 1, 8, 0, 0, -13, 3},
            {0, 1, 7, 0, 0, -2, 0}, {0, 1, 0, 3, 0, -2, 0}, {0, 1, 0, 1, 1, -2, 0}, {0, 1, 1, 2, 0, -1, 0},
            {0, 1, 4, 2, 1, -1, 0}, {0, 1, 5, 2, 0, -1, 0}, {0, 1, 0, 2, 0, 1, 0}, {0, 1, 3, 2, 0, 0, 0}};
        for (int[] c : calls) {
            String call = "order " + java.util.Arrays.toString(c);
            CHECK.due(call, x.order(c[0], c[1], c[2], c[3], c[4]), c[5]);
            CHECK.due(call + " fault", x.fault(), c[6]);
        }
    }

    private static void comings() {
        CHECK.due("without a wire", new OneWire().coming(), -3);
        CHECK.due("all alike", Check.made("w0;p500;p500;p500;p500;p500;p500;p500").coming(), 5040);
        CHECK.due("falling", Check.made("w0;p900;p800;p700;p600;p500;p400;p300").coming(), 1);
        CHECK.due("rising", Check.made("w0;p100;p200;p300").coming(), 6);
        CHECK.due("one bar", Check.made("w0;p200;p100;p300").coming(), 3);
        CHECK.due("two", Check.made("w0;p200;p100").coming(), 1);
    }

    private static void mates(OneWire x, int letters, int... mates) {
        CHECK.due("letters", x.letters(-1), letters);
        for (int p = 0; p < mates.length; p++) {
            CHECK.due("mate of " + p, x.letters(p), mates[p]);
        }
    }

    private static void lettersOfALine() {
        mates(Check.made("w0;p000;p001"), 0, 1, 0);
        mates(Check.made("w0;p001;p001;p002;p002"), 2, 2, 3, 0, 1);
        mates(Check.made("w0;p001;p000;p002;p003"), 0, 1, 0, 3, 2);
        mates(Check.made("w0;p000;p001;p001;p001;p000;p000"), 2, 1, 0, 4, 5, 2, 3);
        OneWire x = Check.made("w0;p001;p001;p002;p002");
        x.grudge(1, true);
        mates(x, 2, 2, 3, 0, 1);
        x.wish(1, 0);
        x.wish(3, 0);
        mates(x, 0, 1, 0, 3, 2);
    }

    private static void lettersOfALoop() {
        mates(Check.made("w1;p001;p001;p002;p002"), 0, 3, 2, 1, 0);
        mates(Check.made("w1;p001;p001;p001;p002;p002;p002"), 2, 4, 5, 3, 2, 0, 1);
        mates(Check.made("w1;p001;p002"), 0, 1, 0);
    }

    private static void theFirstOfSeveral() {
        mates(Check.made("w0;p001;p001;p001;p002;p002;p002"), 6, 3, 4, 5, 0, 1, 2);
        mates(Check.made("w1;p000;p001;p002;p003"), 0, 1, 0, 3, 2);
    }

    private static void notToBePaired() {
        mates(Check.made("w0;p000;p001;p002"), -9, -9, -9, -9);
        mates(Check.made("w0;p001;p001"), -9, -9, -9);
        mates(Check.made("w1;p001;p001;p001;p002"), -9, -9, -9, -9, -9);
    }

    private static void refusalsOfLetters() {
        CHECK.due("without a wire", new OneWire().letters(-1), -3);
        CHECK.due("unknown ahead of it", new OneWire().letters(0), -1);
        OneWire x = Check.made("w0;p000;p001");
        CHECK.due("unknown", x.letters(2), -1);
        CHECK.due("unknown", x.letters(-2), -1);
    }
}
