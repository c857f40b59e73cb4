/** Promises 26 to 29: telling, leaning, kinds that one is taken as, the trace. */
final class PartsTest {
    private static final Check CHECK = new Check();

    public static void main(String[] args) {
        bodiesLeaveTheirNumbers();
        theTraceWraps();
        refusalsLeaveNone();
        takenAs();
        CHECK.end();
    }

    private static int after(int trace, int... bodies) {
        int now = trace;
        for (int body : bodies) {
            now = 31 * now + body;
        }
        return now;
    }

    private static void bodiesLeaveTheirNumbers() {
        OneWire x = Check.made("w0;p300;g400;t500;t000");
        int trace = 0;
        CHECK.due("trace", x.trace(), trace);
        CHECK.due("tell a person", x.tell(0), 3);
        trace = after(trace, 1);
        CHECK.due("trace", x.trace(), trace);
        CHECK.due("tell a grudger", x.tell(1), 104);
        trace = after(trace, 2, 1);
        CHECK.due("trace", x.trace(), trace);
        CHECK.due("tell a talker", x.tell(2), 110);
        trace = after(trace, 3, 2, 1, 1);
        CHECK.due("trace", x.trace(), trace);
        CHECK.due("lean on a person", x.lean(0), 0);
        CHECK.due("lean on a grudger", x.lean(1), 1);
        trace = after(trace, 4, 4);
        CHECK.due("trace", x.trace(), trace);
        CHECK.due("lean on a talker", x.lean(2), 70);
        CHECK.due("lean on a talker", x.lean(3), 70);
        trace = after(trace, 5, 5);
        CHECK.due("trace", x.trace(), trace);
    }

    private static void theTraceWraps() {
        OneWire x = Check.made("w0;t300;p300");
        int trace = 0;
        for (int k = 0; k < 20; k++) {
            x.tell(0);
            trace = after(trace, 3, 2, 1, 1);
            CHECK.due("trace " + k, x.trace(), trace);
        }
    }

    private static void refusalsLeaveNone() {
        OneWire x = Check.made("w0;t300;p300");
        x.tell(1);
        CHECK.due("tell unknown", x.tell(2), -1);
        CHECK.due("tell unknown", x.tell(-1), -1);
        CHECK.due("lean unknown", x.lean(2), -1);
        CHECK.due("lean unknown", x.lean(-1), -1);
        CHECK.due("no wire", new OneWire().tell(0), -1);
        CHECK.due("no wire", new OneWire().lean(0), -1);
        CHECK.due("trace", x.trace(), 1);
    }

    private static void takenAs() {
        OneWire x = Check.made("w0;p300;g400;t500");
        for (int p = 0; p < 3; p++) {
            for (int kind = 0; kind < 3; kind++) {
                CHECK.due("as " + p + " " + kind, x.as(p, kind), kind <= p ? 1 : -12);
                CHECK.due("as " + p + " " + kind + " fault", x.fault(), kind <= p ? 0 : 2);
            }
            CHECK.due("outside", x.as(p, 3), -2);
            CHECK.due("outside", x.as(p, -1), -2);
            CHECK.due("outside", x.fault(), 0);
        }
        CHECK.due("unknown ahead of outside", x.as(3, 3), -1);
        CHECK.due("unknown", x.as(-1, 0), -1);
        CHECK.due("no wire", new OneWire().as(0, 0), -1);
        CHECK.due("no trace", x.trace(), 0);
    }
}
