/** Counts answers that are not as due, for one test class; end() tells them by the exit code. */
final class Check {
    private int asked = 0;
    private int wrong = 0;

    void due(String call, long got, long want) {
        asked++;
        if (got != want) {
            wrong++;
            System.out.println(call + " answered " + got + ", due is " + want);
        }
    }

    void that(String what, boolean holds) {
        due(what, holds ? 1 : 0, 1);
    }

    void end() {
        System.out.println(asked + " asked, " + wrong + " wrong");
        if (wrong != 0 || asked == 0) {
            System.exit(1);
        }
    }

    /** A row of a LANE with these numbers, on a SHEET. */
    static void row(OneWire x, int sheet, int lane, int... numbers) {
        x.sheet(sheet, lane, numbers.length);
        for (int i = 0; i < numbers.length; i++) {
            x.put(sheet, i, numbers[i]);
        }
    }

    static int[] codes(String text) {
        return text.chars().toArray();
    }

    /** What wire answers to a text, written to SHEET 3 as bytes. */
    static int wire(OneWire x, String text) {
        row(x, 3, 0, codes(text));
        return x.wire(3, 0, 0, text.length());
    }

    static OneWire made(String text) {
        OneWire x = new OneWire();
        if (wire(x, text) < 0) {
            System.out.println("not taken: " + text);
            System.exit(1);
        }
        return x;
    }
}
