import java.math.BigInteger;
import java.util.ArrayList;
import java.util.HashMap;
import java.util.List;
import java.util.Map;
import java.util.TreeMap;
import java.util.regex.Matcher;
import java.util.regex.Pattern;

/**
 * Answers every call of OneWire in a plain and slow way of its own: rows are real arrays, kinds are
 * real classes, and what can come is tried out step by step.
 */
final class Model {
    private static final int UNKNOWN = -1, OUTSIDE = -2, STATE = -3, FULL = -4, NONE = -9;
    private static final Pattern TEXT = Pattern.compile("w[01](;[pgt][0-9][0-3][0-3]){2,7}");

    /** A FAULT of the machine, or a refusal of a call that names FAULTS. */
    private static final class Stop extends RuntimeException {
        private static final long serialVersionUID = 1L;
        private final int answer;

        Stop(int answer) {
            this.answer = answer;
        }
    }

    private class Person {
        final int number, strength;
        int has, wishes;

        Person(int number, int strength, int has, int wishes) {
            this.number = number;
            this.strength = strength;
            this.has = has;
            this.wishes = wishes;
        }

        int kind() {
            return 0;
        }

        int alter(int v) {
            return v;
        }

        int tells() {
            leave(1);
            return strength;
        }

        int plainly() {
            leave(1);
            return strength;
        }

        int leant() {
            leave(4);
            return number;
        }
    }

    private class Grudger extends Person {
        Grudger(int number, int strength, int has, int wishes) {
            super(number, strength, has, wishes);
        }

        @Override
        int kind() {
            return 1;
        }

        @Override
        int alter(int v) {
            return (v + strength) % 100;
        }

        @Override
        int tells() {
            leave(2);
            return super.tells() + 100;
        }
    }

    private class Talker extends Grudger {
        Talker(int number, int strength, int has, int wishes) {
            super(number, strength, has, wishes);
        }

        @Override
        int kind() {
            return 2;
        }

        @Override
        int alter(int v) {
            return 2 * super.alter(v) % 100;
        }

        @Override
        int tells() {
            leave(3);
            int grudgers = super.tells();
            return grudgers + plainly();
        }

        @Override
        int leant() {
            leave(5);
            return 70;
        }
    }

    private Object[] sheets = new Object[4];
    private List<Person> persons = new ArrayList<>();
    private boolean loop = false;
    private List<Boolean> grudges = new ArrayList<>();
    private List<int[]> readings = new ArrayList<>();
    private int trace = 0;
    private int fault = 0;

    private void leave(int body) {
        trace = trace * 31 + body;
    }

    // ---- answers of a call that names FAULTS

    private interface Body {
        long run();
    }

    /** Runs a body on real arrays and casts; what the machine throws then is the FAULT. */
    private long faulty(Body body, boolean isLong) {
        int met = 0;
        long answer = 0;
        try {
            answer = body.run();
        } catch (Stop stop) {
            fault = 0;
            return isLong ? OneWire.LOST : stop.answer;
        } catch (NullPointerException e) {
            met = 1;
        } catch (ClassCastException | ArrayStoreException e) {
            met = 2;
        } catch (IndexOutOfBoundsException e) {
            met = 3;
        } catch (NegativeArraySizeException e) {
            met = 4;
        }
        fault = met;
        return met == 0 ? answer : isLong ? OneWire.LOST : -10 - met;
    }

    private static void refuse(boolean is, int answer) {
        if (is) {
            throw new Stop(answer);
        }
    }

    private static boolean within(int v, int least, int most) {
        return least <= v && v <= most;
    }

    private boolean noPerson(int p) {
        return !within(p, 0, persons.size() - 1);
    }

    /** Cells as the machine takes them: cast, length of the row, a new row, the copy. */
    private int[] taken(int sheet, int lane, int i, int n) {
        Object row = sheets[sheet];
        Object source;
        if (lane == 0) {
            source = (byte[]) row;
        } else if (lane == 1) {
            source = (short[]) row;
        } else {
            source = (int[]) row;
        }
        int length = java.lang.reflect.Array.getLength(source);
        // The machine would look for as much room as is asked for; more than a row has does not matter.
        Object part = java.lang.reflect.Array.newInstance(source.getClass().getComponentType(), Math.min(n, length));
        System.arraycopy(source, i, part, 0, n);
        int[] numbers = new int[n];
        for (int k = 0; k < n; k++) {
            numbers[k] = java.lang.reflect.Array.getInt(part, k);
        }
        return numbers;
    }

    // ---- 1

    int wire(int sheet, int lane, int i, int n) {
        return (int) faulty(() -> {
            refuse(!within(sheet, 0, 3), UNKNOWN);
            refuse(!within(lane, 0, 2), OUTSIDE);
            int[] codes = taken(sheet, lane, i, n);
            int place = firstFault(codes);
            return place >= 0 ? -100 - place : take(codes);
        }, false);
    }

    /** -1, or how long the longest beginning of the codes is that can still become a TEXT. */
    private static int firstFault(int[] codes) {
        StringBuilder text = new StringBuilder();
        for (int code : codes) {
            text.append(within(code, 1, 126) ? (char) code : '?');
        }
        for (int length = codes.length; length >= 0; length--) {
            Matcher m = TEXT.matcher(text.substring(0, length));
            if (m.matches() && length == codes.length) {
                return -1;
            }
            if (m.matches() || m.hitEnd()) {
                return length;
            }
        }
        return 0;
    }

    private int take(int[] codes) {
        persons = new ArrayList<>();
        readings = new ArrayList<>();
        grudges = new ArrayList<>();
        loop = codes[1] == '1';
        for (int at = 2; at < codes.length; at += 5) {
            persons.add(made("pgt".indexOf(codes[at + 1]), persons.size(), codes[at + 2] - 48, codes[at + 3] - 48, codes[at + 4] - 48));
        }
        for (int e = 0; e < persons.size() - (loop ? 0 : 1); e++) {
            grudges.add(false);
        }
        return persons.size();
    }

    private Person made(int kind, int number, int strength, int has, int wishes) {
        return kind == 0 ? new Person(number, strength, has, wishes)
            : kind == 1 ? new Grudger(number, strength, has, wishes) : new Talker(number, strength, has, wishes);
    }

    int ofPerson(int p, int what) {
        if (noPerson(p)) {
            return UNKNOWN;
        }
        if (!within(what, 0, 3)) {
            return OUTSIDE;
        }
        Person one = persons.get(p);
        return new int[] {one.kind(), one.strength, one.has, one.wishes}[what];
    }

    int grudge(int e, boolean is) {
        if (!within(e, 0, grudges.size() - 1)) {
            return UNKNOWN;
        }
        return grudges.set(e, is) == is ? 0 : 1;
    }

    int hand(int e) {
        if (!within(e, 0, grudges.size() - 1)) {
            return UNKNOWN;
        }
        if (grudges.get(e)) {
            return STATE;
        }
        Person one = persons.get(e);
        Person other = persons.get((e + 1) % persons.size());
        int good = one.has;
        one.has = other.has;
        other.has = good;
        return 1;
    }

    int wish(int p, int good) {
        if (noPerson(p)) {
            return UNKNOWN;
        }
        if (!within(good, 0, 3)) {
            return OUTSIDE;
        }
        int was = persons.get(p).wishes;
        persons.get(p).wishes = good;
        return was;
    }

    // ---- 2

    /** What each has, and the DAY, by DAYS on which everyone looks at all EDGES. */
    private int[][] told(int from, int v) {
        int n = persons.size();
        int[][] got = new int[n][];
        got[from] = new int[] {v, 0};
        for (int day = 1; day <= n; day++) {
            Map<Integer, int[]> heard = new HashMap<>();
            for (int e = 0; e < grudges.size(); e++) {
                if (!grudges.get(e)) {
                    offer(got, heard, e, (e + 1) % n, day, from);
                    offer(got, heard, (e + 1) % n, e, day, from);
                }
            }
            for (Map.Entry<Integer, int[]> h : heard.entrySet()) {
                got[h.getKey()] = new int[] {h.getValue()[1], day};
            }
        }
        return got;
    }

    private void offer(int[][] got, Map<Integer, int[]> heard, int giver, int taker, int day, int from) {
        if (got[giver] == null || got[giver][1] != day - 1 || got[taker] != null) {
            return;
        }
        int what = giver == from ? got[giver][0] : persons.get(giver).alter(got[giver][0]);
        int[] other = heard.get(taker);
        if (other == null || other[0] > giver) {
            heard.put(taker, new int[] {giver, what});
        }
    }

    int news(int from, int v, int to, int what) {
        if (noPerson(from) || noPerson(to)) {
            return UNKNOWN;
        }
        if (!within(v, 0, 99) || !within(what, 0, 1)) {
            return OUTSIDE;
        }
        int[] got = told(from, v)[to];
        return got == null ? NONE : got[what];
    }

    int said(int from, int to, int v, int k) {
        if (noPerson(from) || noPerson(to) || k < -1) {
            return UNKNOWN;
        }
        if (!within(v, 0, 99)) {
            return OUTSIDE;
        }
        List<Integer> all = new ArrayList<>();
        for (int u = 0; u < 100; u++) {
            int[] got = told(from, u)[to];
            if (got != null && got[0] == v) {
                all.add(u);
            }
        }
        return k == -1 ? all.size() : k < all.size() ? all.get(k) : NONE;
    }

    // ---- 3

    private String goods(boolean wished) {
        StringBuilder text = new StringBuilder();
        for (Person one : persons) {
            text.append(wished ? one.wishes : one.has);
        }
        return text.toString();
    }

    private static String changed(String row, int a, int b) {
        char[] signs = row.toCharArray();
        char sign = signs[a];
        signs[a] = signs[b];
        signs[b] = sign;
        return new String(signs);
    }

    int fewest() {
        return persons.isEmpty() ? STATE : distance(false);
    }

    int soonest() {
        return persons.isEmpty() ? STATE : distance(true);
    }

    private int distance(boolean byDays) {
        Map<String, Integer> far = new HashMap<>();
        List<String> queue = new ArrayList<>();
        queue.add(goods(false));
        far.put(goods(false), 0);
        for (int at = 0; at < queue.size(); at++) {
            List<String> next = new ArrayList<>();
            if (byDays) {
                days(queue.get(at), 0, new boolean[persons.size()], next);
            } else {
                for (int e = 0; e < grudges.size(); e++) {
                    if (!grudges.get(e)) {
                        next.add(changed(queue.get(at), e, (e + 1) % persons.size()));
                    }
                }
            }
            for (String row : next) {
                if (!far.containsKey(row)) {
                    far.put(row, far.get(queue.get(at)) + 1);
                    queue.add(row);
                }
            }
        }
        return far.getOrDefault(goods(true), NONE);
    }

    private void days(String row, int e, boolean[] busy, List<String> next) {
        if (e == grudges.size()) {
            next.add(row);
            return;
        }
        days(row, e + 1, busy, next);
        int other = (e + 1) % persons.size();
        if (!grudges.get(e) && !busy[e] && !busy[other]) {
            busy[e] = true;
            busy[other] = true;
            days(changed(row, e, other), e + 1, busy, next);
            busy[e] = false;
            busy[other] = false;
        }
    }

    int cut(int e) {
        if (!within(e, 0, grudges.size() - 1)) {
            return UNKNOWN;
        }
        if (loop) {
            return STATE;
        }
        List<Integer> wished = new ArrayList<>();
        for (int p = 0; p <= e; p++) {
            wished.add(persons.get(p).wishes);
        }
        int more = 0;
        for (int p = 0; p <= e; p++) {
            if (!wished.remove(Integer.valueOf(persons.get(p).has))) {
                more++;
            }
        }
        return more;
    }

    // ---- 4

    /** All ORDERS that can come, with the fewest CHANGES. */
    private Map<String, Integer> orders() {
        Map<String, Integer> far = new HashMap<>();
        List<String> queue = new ArrayList<>();
        String now = "0123456".substring(0, persons.size());
        queue.add(now);
        far.put(now, 0);
        for (int at = 0; at < queue.size(); at++) {
            String row = queue.get(at);
            for (int p = 0; p + 1 < row.length(); p++) {
                if (persons.get(row.charAt(p + 1) - '0').strength >= persons.get(row.charAt(p) - '0').strength) {
                    String next = changed(row, p, p + 1);
                    if (far.putIfAbsent(next, far.get(row) + 1) == null) {
                        queue.add(next);
                    }
                }
            }
        }
        return far;
    }

    int order(int sheet, int lane, int i, int n, int what) {
        return (int) faulty(() -> {
            refuse(!within(sheet, 0, 3), UNKNOWN);
            refuse(!within(lane, 0, 2) || !within(what, 0, 1), OUTSIDE);
            int[] cells = taken(sheet, lane, i, n);
            refuse(persons.isEmpty(), STATE);
            refuse(n != persons.size(), OUTSIDE);
            StringBuilder row = new StringBuilder();
            for (int p : cells) {
                refuse(noPerson(p) || row.indexOf("" + p) >= 0, UNKNOWN);
                row.append(p);
            }
            return what == 0 ? orders().getOrDefault(row.toString(), NONE) : bar(row.toString());
        }, false);
    }

    private int bar(String row) {
        for (int pair = 0; pair < 100; pair++) {
            int one = row.indexOf('0' + pair / 10);
            int two = row.indexOf('0' + pair % 10);
            if (pair / 10 < pair % 10 && one >= 0 && two >= 0 && two < one
                && persons.get(pair % 10).strength < persons.get(pair / 10).strength) {
                return pair;
            }
        }
        return NONE;
    }

    int coming() {
        return persons.isEmpty() ? STATE : orders().size();
    }

    int letters(int p) {
        if (p != -1 && noPerson(p)) {
            return UNKNOWN;
        }
        if (persons.isEmpty()) {
            return STATE;
        }
        TreeMap<Integer, String> first = new TreeMap<>();
        rows("", first);
        if (first.isEmpty()) {
            return NONE;
        }
        return p == -1 ? first.firstKey() : first.firstEntry().getValue().charAt(p) - '0';
    }

    /** All rows of MATES; of those with as many READERS the one that is told first is kept. */
    private void rows(String row, Map<Integer, String> first) {
        int n = persons.size();
        if (row.length() < n) {
            for (int mate = 0; mate < n; mate++) {
                rows(row + mate, first);
            }
            return;
        }
        int twice = 0;
        for (int p = 0; p < n; p++) {
            int mate = row.charAt(p) - '0';
            if (mate == p || row.charAt(mate) - '0' != p || persons.get(p).wishes == persons.get(mate).wishes) {
                return;
            }
            int between = Math.abs(p - mate) - 1;
            twice += loop ? Math.min(between, n - 2 - between) : between;
        }
        first.merge(twice / 2, row, (a, b) -> a.compareTo(b) < 0 ? a : b);
    }

    // ---- 5

    /** The mean by all ways in which EDGES can tear, over 10 to the number of EDGES. */
    private BigInteger mean(int p, int g) {
        BigInteger sum = BigInteger.ZERO;
        int n = persons.size();
        for (int torn = 0; torn < 1 << grudges.size(); torn++) {
            long weight = 1;
            for (int e = 0; e < grudges.size(); e++) {
                weight *= (torn >> e & 1) != 0 ? g : 10 - g;
            }
            boolean[] in = new boolean[n];
            in[p] = true;
            for (int round = 0; round < n; round++) {
                for (int e = 0; e < grudges.size(); e++) {
                    int other = (e + 1) % n;
                    if ((torn >> e & 1) == 0 && !grudges.get(e) && in[e] != in[other]) {
                        in[e] = true;
                        in[other] = true;
                    }
                }
            }
            int others = -1;
            for (boolean one : in) {
                others += one ? 1 : 0;
            }
            sum = sum.add(BigInteger.valueOf(weight * others));
        }
        return sum;
    }

    long heard(int p, int g, int which) {
        if (noPerson(p) || !within(g, 0, 10) || !within(which, 0, 1)) {
            return OneWire.LOST;
        }
        BigInteger upper = mean(p, g);
        BigInteger lower = BigInteger.TEN.pow(grudges.size());
        return (which == 0 ? upper : lower).divide(upper.gcd(lower)).longValue();
    }

    int stand(int g) {
        if (!within(g, 0, 10)) {
            return OUTSIDE;
        }
        if (persons.isEmpty()) {
            return STATE;
        }
        int best = persons.size() - 1;
        for (int p = best; p >= 0; p--) {
            if (mean(p, g).compareTo(mean(best, g)) >= 0) {
                best = p;
            }
        }
        return best;
    }

    int reading(int from, int v, int to, int x) {
        if (noPerson(from) || noPerson(to)) {
            return UNKNOWN;
        }
        if (!within(v, 0, 99) || !within(x, 0, 99) && x != NONE) {
            return OUTSIDE;
        }
        if (readings.size() == 8) {
            return FULL;
        }
        readings.add(new int[] {from, v, to, x});
        return readings.size() - 1;
    }

    int back(int k) {
        if (!within(k, 0, readings.size())) {
            return OUTSIDE;
        }
        readings = new ArrayList<>(readings.subList(0, readings.size() - k));
        return readings.size();
    }

    private boolean allSo() {
        return readings.stream().allMatch(r -> news(r[0], r[1], r[2], 0) == r[3]);
    }

    int kinds(int p) {
        if (noPerson(p)) {
            return UNKNOWN;
        }
        Person own = persons.get(p);
        int set = 0;
        for (int kind = 0; kind < 3; kind++) {
            persons.set(p, made(kind, p, own.strength, own.has, own.wishes));
            set += allSo() ? 1 << kind : 0;
        }
        persons.set(p, own);
        return set;
    }

    int walls() {
        if (persons.isEmpty()) {
            return STATE;
        }
        List<Boolean> own = grudges;
        int set = 0;
        for (int e = 0; e < own.size(); e++) {
            grudges = new ArrayList<>(own);
            grudges.set(e, true);
            set += allSo() ? 1 << e : 0;
        }
        grudges = own;
        return set;
    }

    // ---- 6

    int sheet(int k, int lane, int n) {
        return (int) faulty(() -> {
            refuse(!within(k, 0, 3), UNKNOWN);
            refuse(!within(lane, 0, 2) || n > 50, OUTSIDE);
            sheets[k] = lane == 0 ? new byte[n] : lane == 1 ? new short[n] : new int[n];
            return 1;
        }, false);
    }

    int lose(int k) {
        if (!within(k, 0, 3)) {
            return UNKNOWN;
        }
        int had = sheets[k] == null ? 0 : 1;
        sheets[k] = null;
        return had;
    }

    int put(int k, int i, int v) {
        return (int) faulty(() -> {
            refuse(!within(k, 0, 3), UNKNOWN);
            if (sheets[k] instanceof byte[]) {
                ((byte[]) sheets[k])[i] = (byte) v;
            } else if (sheets[k] instanceof short[]) {
                ((short[]) sheets[k])[i] = (short) v;
            } else {
                ((int[]) sheets[k])[i] = v;
            }
            return 1;
        }, false);
    }

    long cell(int k, int i, int lane) {
        return faulty(() -> {
            refuse(!within(k, 0, 3), UNKNOWN);
            refuse(!within(lane, 0, 2), OUTSIDE);
            return lane == 0 ? ((byte[]) sheets[k])[i] : lane == 1 ? ((short[]) sheets[k])[i] : ((int[]) sheets[k])[i];
        }, true);
    }

    int copy(int k, int i, int other, int j, int n) {
        return (int) faulty(() -> {
            refuse(!within(k, 0, 3) || !within(other, 0, 3), UNKNOWN);
            System.arraycopy(sheets[k], i, sheets[other], j, n);
            return n;
        }, false);
    }

    int tell(int p) {
        return noPerson(p) ? UNKNOWN : persons.get(p).tells();
    }

    int lean(int p) {
        return noPerson(p) ? UNKNOWN : persons.get(p).leant();
    }

    int as(int p, int kind) {
        return (int) faulty(() -> {
            refuse(noPerson(p), UNKNOWN);
            refuse(!within(kind, 0, 2), OUTSIDE);
            Person one = persons.get(p);
            Person taken = kind == 0 ? one : kind == 1 ? (Grudger) one : (Talker) one;
            return taken == null ? 0 : 1;
        }, false);
    }

    int trace() {
        return trace;
    }

    int fault() {
        return fault;
    }

    int many(int what) {
        int walled = (int) grudges.stream().filter(is -> is).count();
        int[] all = {persons.size(), grudges.size(), walled, readings.size(), loop ? 1 : 0};
        return within(what, 0, 4) ? all[what] : OUTSIDE;
    }
}
