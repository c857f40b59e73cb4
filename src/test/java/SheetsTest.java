/** Promises 21 to 25 and 30: sheets and faults. */
final class SheetsTest {
    private static final Check CHECK = new Check();

    public static void main(String[] args) {
        newRows();
        losing();
        puttingCutsToTheLane();
        takingCells();
        copying();
        refusalsAndFaultsOfCopy();
        faultIsOfTheLatestThatNamesOne();
        CHECK.end();
    }

    private static void newRows() {
        OneWire x = new OneWire();
        CHECK.due("unknown", x.sheet(4, 3, -1), -1);
        CHECK.due("unknown", x.sheet(-1, 0, 0), -1);
        CHECK.due("lane", x.sheet(0, 3, -1), -2);
        CHECK.due("lane", x.sheet(0, -1, 0), -2);
        CHECK.due("n", x.sheet(0, 0, 51), -2);
        CHECK.due("no fault", x.fault(), 0);
        CHECK.due("size", x.sheet(0, 0, -1), -14);
        CHECK.due("size", x.fault(), 4);
        CHECK.due("nothing yet", x.lose(0), 0);
        CHECK.due("50", x.sheet(0, 1, 50), 1);
        CHECK.due("no fault", x.fault(), 0);
        x.put(0, 49, 7);
        CHECK.due("the last", x.cell(0, 49, 1), 7);
        CHECK.due("size changes nothing", x.sheet(0, 2, -5), -14);
        CHECK.due("the last still", x.cell(0, 49, 1), 7);
        x.sheet(0, 1, 50);
        CHECK.due("new again", x.cell(0, 49, 1), 0);
        x.put(0, 3, 9);
        x.sheet(0, 2, 2);
        x.sheet(0, 2, 5);
        CHECK.due("all 0", x.cell(0, 3, 2), 0);
        CHECK.due("a row of none", x.sheet(1, 0, 0), 1);
        CHECK.due("has no cell", x.put(1, 0, 1), -13);
        CHECK.due("but is a row", x.lose(1), 1);
    }

    private static void losing() {
        OneWire x = new OneWire();
        CHECK.due("unknown", x.lose(4), -1);
        CHECK.due("unknown", x.lose(-1), -1);
        x.sheet(2, 0, 1);
        CHECK.due("lost", x.lose(2), 1);
        CHECK.due("had nothing", x.lose(2), 0);
        CHECK.due("nothing", x.put(2, 0, 0), -11);
        CHECK.due("names no fault", x.lose(2), 0);
        CHECK.due("names no fault", x.fault(), 1);
    }

    private static void puttingCutsToTheLane() {
        OneWire x = new OneWire();
        int[] put = {127, 128, 255, 256, -129, 32768, 65535, 65536, Integer.MAX_VALUE, Integer.MIN_VALUE};
        for (int v : put) {
            long[] due = {(byte) v, (short) v, v};
            for (int lane = 0; lane < 3; lane++) {
                x.sheet(0, lane, 3);
                CHECK.due("put", x.put(0, 1, v), 1);
                CHECK.due("cut " + v + " to " + lane, x.cell(0, 1, lane), due[lane]);
                CHECK.due("the one ahead", x.cell(0, 0, lane), 0);
                CHECK.due("the one behind", x.cell(0, 2, lane), 0);
            }
        }
        CHECK.due("unknown", x.put(4, 0, 0), -1);
        CHECK.due("unknown", x.put(-1, 0, 0), -1);
        CHECK.due("null ahead of index", x.put(1, -1, 0), -11);
        CHECK.due("null", x.fault(), 1);
        CHECK.due("index", x.put(0, 3, 0), -13);
        CHECK.due("index", x.fault(), 3);
        CHECK.due("index", x.put(0, -1, 0), -13);
        CHECK.due("index", x.put(0, Integer.MAX_VALUE, 0), -13);
        CHECK.due("index", x.put(0, Integer.MIN_VALUE, 0), -13);
        CHECK.due("put", x.put(0, 2, 0), 1);
        CHECK.due("none", x.fault(), 0);
    }

    private static void lost(OneWire x, int k, int i, int lane, int fault) {
        String call = "cell " + k + " " + i + " " + lane;
        CHECK.due(call, x.cell(k, i, lane), OneWire.LOST);
        CHECK.due(call + " fault", x.fault(), fault);
    }

    private static void takingCells() {
        OneWire x = new OneWire();
        Check.row(x, 0, 1, 4, -5);
        lost(x, 0, 2, 2, 2);
        lost(x, 4, 0, 0, 0);
        lost(x, 0, 2, 1, 3);
        lost(x, -1, 0, 0, 0);
        lost(x, 1, 9, 0, 1);
        lost(x, 0, 0, 3, 0);
        lost(x, 0, -1, 1, 3);
        lost(x, 1, 0, -1, 0);
        lost(x, 0, 0, 0, 2);
        CHECK.due("cell", x.cell(0, 1, 1), -5);
        CHECK.due("no fault", x.fault(), 0);
    }

    private static void row(OneWire x, int k, int lane, int... due) {
        for (int i = 0; i < due.length; i++) {
            CHECK.due("cell " + i, x.cell(k, i, lane), due[i]);
        }
    }

    private static void copying() {
        OneWire x = new OneWire();
        Check.row(x, 0, 2, 1, 2, 3, 4, 5);
        Check.row(x, 1, 2, 0, 0, 0);
        CHECK.due("copy", x.copy(0, 2, 1, 1, 2), 2);
        row(x, 1, 2, 0, 3, 4);
        CHECK.due("rightwards in itself", x.copy(0, 0, 0, 1, 4), 4);
        row(x, 0, 2, 1, 1, 2, 3, 4);
        CHECK.due("leftwards in itself", x.copy(0, 1, 0, 0, 4), 4);
        row(x, 0, 2, 1, 2, 3, 4, 4);
        CHECK.due("none", x.copy(0, 5, 1, 3, 0), 0);
        CHECK.due("no fault", x.fault(), 0);
    }

    private static void refusalsAndFaultsOfCopy() {
        OneWire x = new OneWire();
        Check.row(x, 0, 2, 1, 2, 3);
        Check.row(x, 1, 2, 4, 5);
        Check.row(x, 2, 1, 6, 7);
        int[][] calls = {
            {4, 0, 3, 0, 1, -1, 0}, {3, 0, 4, 0, 1, -1, 0}, {-1, 0, 0, 0, 0, -1, 0}, {0, 0, -1, 0, 0, -1, 0},
            {3, 0, 2, 0, -1, -11, 1}, {0, 9, 3, 9, 9, -11, 1}, {0, -1, 2, 0, -1, -12, 2}, {2, 0, 0, 0, 1, -12, 2},
            {0, -1, 1, 0, 1, -13, 3}, {0, 0, 1, -1, 1, -13, 3}, {0, 0, 1, 0, -1, -13, 3}, {0, 0, 1, 0, 3, -13, 3},
            {0, 2, 1, 0, 2, -13, 3}, {0, 0, 1, 1, 2, -13, 3}, {0, 4, 1, 0, 0, -13, 3}, {0, 0, 1, 3, 0, -13, 3},
            {0, Integer.MAX_VALUE, 1, 0, Integer.MAX_VALUE, -13, 3}, {0, 0, 1, 0, Integer.MIN_VALUE, -13, 3},
            {0, Integer.MIN_VALUE, 1, Integer.MIN_VALUE, 1, -13, 3}, {0, 3, 1, 2, 0, 0, 0}};
        for (int[] c : calls) {
            String call = "copy " + java.util.Arrays.toString(c);
            CHECK.due(call, x.copy(c[0], c[1], c[2], c[3], c[4]), c[5]);
            CHECK.due(call + " fault", x.fault(), c[6]);
        }
        row(x, 0, 2, 1, 2, 3);
        row(x, 1, 2, 4, 5);
        row(x, 2, 1, 6, 7);
    }

    private static void faultIsOfTheLatestThatNamesOne() {
        OneWire x = Check.made("w0;p000;p000");
        x.put(0, 0, 0);
        CHECK.due("null", x.fault(), 1);
        x.fault();
        x.trace();
        x.lose(0);
        x.lose(9);
        x.ofPerson(0, 0);
        x.ofPerson(9, 0);
        x.grudge(0, true);
        x.hand(0);
        x.wish(0, 9);
        x.news(0, 0, 1, 0);
        x.said(0, 0, 0, 0);
        x.fewest();
        x.soonest();
        x.cut(0);
        x.coming();
        x.letters(9);
        x.heard(9, 9, 9);
        x.stand(99);
        x.reading(0, 0, 0, 0);
        x.back(1);
        x.kinds(0);
        x.walls();
        x.tell(0);
        x.lean(0);
        x.many(9);
        CHECK.due("others name none", x.fault(), 1);
        x.as(9, 0);
        CHECK.due("refused", x.fault(), 0);
        x.as(0, 2);
        CHECK.due("cast", x.fault(), 2);
        x.put(9, 0, 0);
        CHECK.due("refused", x.fault(), 0);
    }
}
