/** All that can be seen of an object, as a text; looking changes fault(), which is not told here. */
final class Seen {
    private Seen() {
    }

    static String of(OneWire x) {
        StringBuilder seen = new StringBuilder();
        for (int what = 0; what < 5; what++) {
            seen.append(" many ").append(x.many(what));
        }
        seen.append(" trace ").append(x.trace()).append(" walls ").append(x.walls());
        for (int p = 0; p < x.many(0); p++) {
            seen.append(" kinds ").append(x.kinds(p)).append(" person");
            for (int what = 0; what < 4; what++) {
                seen.append(' ').append(x.ofPerson(p, what));
            }
        }
        for (int e = 0; e < x.many(1); e++) {
            seen.append(" grudge ").append(isGrudge(x, e));
        }
        for (int k = 0; k < 4; k++) {
            row(x, k, seen);
        }
        return seen.toString();
    }

    private static boolean isGrudge(OneWire x, int e) {
        if (x.grudge(e, true) == 0) {
            return true;
        }
        x.grudge(e, false);
        return false;
    }

    private static void row(OneWire x, int k, StringBuilder seen) {
        seen.append(" sheet ").append(k);
        for (int lane = 0; lane < 3; lane++) {
            long cell = x.cell(k, 0, lane);
            int fault = x.fault();
            seen.append(" fault ").append(fault);
            for (int i = 1; fault == 0; i++) {
                seen.append(' ').append(cell);
                cell = x.cell(k, i, lane);
                fault = x.fault();
            }
        }
    }
}
