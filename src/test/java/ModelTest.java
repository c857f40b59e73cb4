import java.util.Random;

/** All promises: runs of random calls, always the same ones, held against the model's answers. */
final class ModelTest {
    private static final int RUNS = 6000;
    /** Nothing is promised of later calls. */
    private static final int MOST_CALLS = 512;
    /** More than a step can take, and what is asked at the end of a run. */
    private static final int KEPT_FOR_A_STEP = 70, KEPT_FOR_THE_END = 28;
    private static final int[] FAR = {Integer.MIN_VALUE, Integer.MAX_VALUE, -100, 100, 1 << 16, -10, 51};

    private final Random random;
    private final OneWire one = new OneWire();
    private final Model model = new Model();
    private final Check check;
    private final StringBuilder log = new StringBuilder();
    private int calls = 0;

    private ModelTest(int seed, Check check) {
        this.random = new Random(seed);
        this.check = check;
    }

    public static void main(String[] args) {
        Check check = new Check();
        for (int seed = 0; seed < RUNS; seed++) {
            new ModelTest(seed, check).run();
        }
        check.end();
    }

    private void run() {
        for (int k = 0; calls < MOST_CALLS - KEPT_FOR_A_STEP - KEPT_FOR_THE_END; k++) {
            if (k == 5 || random.nextInt(60) == 0) {
                giveText();
            } else {
                step(random.nextInt(34));
            }
            due("fault", one.fault(), model.fault());
            due("trace", one.trace(), model.trace());
            int what = about(0, 4);
            due("many " + what, one.many(what), model.many(what));
        }
        for (int p = 0; p < 7; p++) {
            for (int what = 0; what < 4; what++) {
                due("ofPerson " + p + " " + what, one.ofPerson(p, what), model.ofPerson(p, what));
            }
        }
        check.that("at most 512 calls", calls <= MOST_CALLS);
    }

    private void due(String call, long got, long want) {
        calls++;
        if (got != want) {
            System.out.println(log);
        }
        log.append(call).append(" = ").append(want).append('\n');
        check.due(call, got, want);
    }

    private int below(int n) {
        return random.nextInt(n);
    }

    /** Mostly one of least .. most, now and then one beside them, seldom one far off. */
    private int about(int least, int most) {
        int way = below(40);
        if (way == 0) {
            return FAR[below(FAR.length)];
        }
        if (way < 3) {
            return way == 1 ? least - 1 : most + 1;
        }
        return least + below(most - least + 1);
    }

    private int person() {
        return about(0, Math.max(model.many(0) - 1, 0));
    }

    private int edge() {
        return about(0, Math.max(model.many(1) - 1, 0));
    }

    private int number() {
        return below(3) == 0 ? below(10) : about(0, 99);
    }

    private void put(int k, int i, int v) {
        due("put " + k + " " + i + " " + v, one.put(k, i, v), model.put(k, i, v));
    }

    private void sheet(int k, int lane, int n) {
        due("sheet " + k + " " + lane + " " + n, one.sheet(k, lane, n), model.sheet(k, lane, n));
    }

    private void wire(int k, int lane, int i, int n) {
        due("wire " + k + " " + lane + " " + i + " " + n, one.wire(k, lane, i, n), model.wire(k, lane, i, n));
    }

    /** A TEXT, sometimes with a code that is wrong, or too short, or not from the row's first cell on. */
    private void giveText() {
        int persons = below(20) == 0 ? below(9) : 2 + below(6);
        int goods = 1 + below(4);
        int strengths = 1 + below(10);
        String wished = "0123210";
        StringBuilder text = new StringBuilder("w").append(below(2));
        int shift = below(7);
        for (int p = 0; p < persons; p++) {
            int has = (wished.charAt(p % 7) - '0') % goods;
            int wishes = below(15) == 0 ? below(4) : (wished.charAt((p + shift) % Math.max(persons, 1) % 7) - '0') % goods;
            text.append(';').append("pgt".charAt(below(3))).append(below(strengths)).append(has).append(wishes);
        }
        if (below(6) == 0) {
            text.setCharAt(below(text.length()), "w01;pgt93/:4x".charAt(below(13)));
        }
        if (below(8) == 0) {
            text.setLength(below(text.length() + 1));
        }
        int from = below(4) == 0 ? below(50 - text.length() + 1) : 0;
        int lane = below(3);
        int k = below(4);
        sheet(k, lane, from + text.length());
        for (int i = 0; i < text.length(); i++) {
            put(k, from + i, text.charAt(i));
        }
        wire(k, lane, from, text.length());
    }

    private void giveOrder() {
        int n = model.many(0);
        int[] row = new int[n];
        for (int p = 0; p < n; p++) {
            row[p] = p;
        }
        for (int swaps = below(8); swaps > 0 && n > 1; swaps--) {
            int at = below(n - 1);
            int p = row[at];
            row[at] = row[at + 1];
            row[at + 1] = p;
        }
        int lane = below(3);
        sheet(0, lane, n + below(3));
        for (int i = 0; i < n; i++) {
            put(0, i, below(60) == 0 ? about(0, n) : row[i]);
        }
        for (int what = 0; what < 2; what++) {
            due("order 0 " + lane + " 0 " + n + " " + what, one.order(0, lane, 0, n, what), model.order(0, lane, 0, n, what));
        }
    }

    private void step(int call) {
        if (call < 10) {
            stepOfWire(call);
        } else if (call < 18) {
            stepOfGoods(call);
        } else if (call < 25) {
            stepOfHearing(call);
        } else {
            stepOfSheets(call);
        }
    }

    private void stepOfWire(int call) {
        int p = person();
        int q = person();
        int v = number();
        int k = about(-1, 3);
        int what = about(0, 1);
        switch (call) {
            case 0:
                int lane = about(0, 2);
                int i = about(0, 10);
                int n = about(0, 40);
                wire(about(0, 3), lane, i, n);
                break;
            case 1:
                due("ofPerson " + p + " " + k, one.ofPerson(p, k), model.ofPerson(p, k));
                break;
            case 2:
            case 3:
                int e = edge();
                boolean is = below(3) == 0;
                due("grudge " + e + " " + is, one.grudge(e, is), model.grudge(e, is));
                break;
            case 4:
                int h = edge();
                due("hand " + h, one.hand(h), model.hand(h));
                break;
            case 5:
                due("wish " + p + " " + k, one.wish(p, k), model.wish(p, k));
                break;
            case 6:
            case 7:
                due("news " + p + " " + v + " " + q + " " + what, one.news(p, v, q, what), model.news(p, v, q, what));
                break;
            default:
                due("said " + p + " " + q + " " + v + " " + k, one.said(p, q, v, k), model.said(p, q, v, k));
                break;
        }
    }

    private void stepOfGoods(int call) {
        int p = about(-1, Math.max(model.many(0) - 1, 0));
        int e = edge();
        switch (call) {
            case 10:
                due("fewest", one.fewest(), model.fewest());
                break;
            case 11:
                due("soonest", one.soonest(), model.soonest());
                break;
            case 12:
                due("cut " + e, one.cut(e), model.cut(e));
                break;
            case 13:
                int k = about(0, 3);
                int lane = about(0, 2);
                int i = about(0, 3);
                int n = about(0, 8);
                int what = about(0, 1);
                due("order " + k + " " + lane + " " + i + " " + n + " " + what,
                    one.order(k, lane, i, n, what), model.order(k, lane, i, n, what));
                break;
            case 14:
            case 15:
                giveOrder();
                break;
            case 16:
                due("coming", one.coming(), model.coming());
                break;
            default:
                // the model tries all rows of seven: seldom
                if (model.many(0) < 7 || below(20) == 0) {
                    due("letters " + p, one.letters(p), model.letters(p));
                }
                break;
        }
    }

    private void stepOfHearing(int call) {
        int p = person();
        int q = person();
        int g = about(0, 10);
        int v = number();
        switch (call) {
            case 18:
                int which = about(0, 1);
                due("heard " + p + " " + g + " " + which, one.heard(p, g, which), model.heard(p, g, which));
                break;
            case 19:
                due("stand " + g, one.stand(g), model.stand(g));
                break;
            case 20:
            case 21:
                int heard = below(4) == 0 ? number() : below(6) == 0 ? -9 : Math.max(model.news(p, v, q, 0), -9);
                due("reading " + p + " " + v + " " + q + " " + heard, one.reading(p, v, q, heard), model.reading(p, v, q, heard));
                break;
            case 22:
                int k = below(2) == 0 ? about(0, 1) : about(0, 8);
                due("back " + k, one.back(k), model.back(k));
                break;
            case 23:
                due("kinds " + p, one.kinds(p), model.kinds(p));
                break;
            default:
                due("walls", one.walls(), model.walls());
                break;
        }
    }

    private void stepOfSheets(int call) {
        int k = about(0, 3);
        int lane = about(0, 2);
        int i = about(0, 12);
        int p = person();
        switch (call) {
            case 25:
                int length = about(0, 50);
                sheet(k, lane, below(2) == 0 ? length : about(0, 8));
                break;
            case 26:
                due("lose " + k, one.lose(k), model.lose(k));
                break;
            case 27:
            case 28:
                put(k, i, below(3) == 0 ? random.nextInt() : below(7));
                break;
            case 29:
                due("cell " + k + " " + i + " " + lane, one.cell(k, i, lane), model.cell(k, i, lane));
                break;
            case 30:
                int other = about(0, 3);
                int j = about(0, 8);
                int n = about(0, 8);
                due("copy " + k + " " + i + " " + other + " " + j + " " + n,
                    one.copy(k, i, other, j, n), model.copy(k, i, other, j, n));
                break;
            case 31:
                due("tell " + p, one.tell(p), model.tell(p));
                break;
            case 32:
                due("lean " + p, one.lean(p), model.lean(p));
                break;
            default:
                due("as " + p + " " + lane, one.as(p, lane), model.as(p, lane));
                break;
        }
    }
}
