import java.util.Arrays;

/**
 * Persons of kinds on one wire, who know two neighbours alone: news, goods, orders, weddings,
 * tearing and readings of them. The numbered promises stand in the project's DOC.md.
 *
 * <p>All rows are made with the object and used again, so that no call makes anything. The members
 * of the classes inside are private, too, so that nothing but the document's face can be seen.
 */
public final class OneWire {
    public static final int UNKNOWN = -1, OUTSIDE = -2, STATE = -3, FULL = -4, NONE = -9;
    public static final long LOST = Long.MIN_VALUE;

    private static final int NULL = 1, CAST = 2, INDEX = 3, SIZE = 4;
    private static final int SHEETS = 4, LANES = 3, MOST_CELLS = 50, BYTES = 0, SHORTS = 1;
    private static final int LEAST_PERSONS = 2, MOST_PERSONS = 7;
    private static final int PERSON_SETS = 1 << MOST_PERSONS, EDGE_SETS = 1 << MOST_PERSONS;
    private static final int KINDS = 3, PERSON = 0, GRUDGER = 1, TALKER = 2;
    private static final int GOODS = 4, NUMBERS = 100, TENTHS = 10, MOST_READINGS = 8;
    private static final int TEXT_HEAD = 2, CODES_OF_PERSON = 5;

    private final Sheet[] sheets = new Sheet[SHEETS];
    private final Line line = new Line();
    private final Spread spread = new Spread();
    private final Trade trade = new Trade();
    private final Ranks ranks = new Ranks();
    private final Pairing pairing = new Pairing();
    private final Readings readings = new Readings();
    private int traced = 0;
    private int latestFault = 0;

    public OneWire() {
        for (int k = 0; k < sheets.length; k++) {
            sheets[k] = new Sheet();
        }
    }

    // ---- 1 the wire

    public int wire(int sheet, int lane, int i, int n) {
        latestFault = 0;
        if (!isSheet(sheet)) {
            return UNKNOWN;
        }
        if (!isLane(lane)) {
            return OUTSIDE;
        }
        Sheet text = sheets[sheet];
        int met = text.faultOfCells(lane, i, n);
        if (met != 0) {
            return failed(met);
        }
        int wrong = firstFault(text, i, n);
        if (wrong != NONE) {
            return -100 - wrong;
        }
        line.takeText(text, i, n);
        readings.count = 0;
        return line.persons;
    }

    public int ofPerson(int p, int what) {
        if (!line.isPerson(p)) {
            return UNKNOWN;
        }
        switch (what) {
            case 0:
                return line.kind[p];
            case 1:
                return line.strength[p];
            case 2:
                return line.has[p];
            case 3:
                return line.wishes[p];
            default:
                return OUTSIDE;
        }
    }

    public int grudge(int e, boolean is) {
        if (!line.isEdge(e)) {
            return UNKNOWN;
        }
        if (line.walled[e] == is) {
            return 0;
        }
        line.walled[e] = is;
        return 1;
    }

    public int hand(int e) {
        if (!line.isEdge(e)) {
            return UNKNOWN;
        }
        if (line.walled[e]) {
            return STATE;
        }
        line.changeGoods(e);
        return 1;
    }

    public int wish(int p, int good) {
        if (!line.isPerson(p)) {
            return UNKNOWN;
        }
        if (good < 0 || good >= GOODS) {
            return OUTSIDE;
        }
        int was = line.wishes[p];
        line.wishes[p] = good;
        return was;
    }

    // ---- 2 news

    public int news(int from, int v, int to, int what) {
        if (!line.isPerson(from) || !line.isPerson(to)) {
            return UNKNOWN;
        }
        if (!isNumber(v) || what < 0 || what > 1) {
            return OUTSIDE;
        }
        spread.tellFrom(line, from, v);
        return what == 0 ? spread.value[to] : spread.day[to];
    }

    public int said(int from, int to, int v, int k) {
        if (!line.isPerson(from) || !line.isPerson(to) || k < -1) {
            return UNKNOWN;
        }
        if (!isNumber(v)) {
            return OUTSIDE;
        }
        int found = 0;
        for (int told = 0; told < NUMBERS; told++) {
            spread.tellFrom(line, from, told);
            if (spread.value[to] == v) {
                if (found == k) {
                    return told;
                }
                found++;
            }
        }
        return k == -1 ? found : NONE;
    }

    // ---- 3 goods

    public int fewest() {
        return line.isThere() ? trade.leastSteps(line, false) : STATE;
    }

    public int soonest() {
        return line.isThere() ? trade.leastSteps(line, true) : STATE;
    }

    public int cut(int e) {
        if (!line.isEdge(e)) {
            return UNKNOWN;
        }
        return line.loop ? STATE : trade.mustGoOver(line, e);
    }

    // ---- 4 orders, weddings

    public int order(int sheet, int lane, int i, int n, int what) {
        latestFault = 0;
        if (!isSheet(sheet)) {
            return UNKNOWN;
        }
        if (!isLane(lane) || what < 0 || what > 1) {
            return OUTSIDE;
        }
        Sheet row = sheets[sheet];
        int met = row.faultOfCells(lane, i, n);
        if (met != 0) {
            return failed(met);
        }
        if (!line.isThere()) {
            return STATE;
        }
        if (n != line.persons) {
            return OUTSIDE;
        }
        if (!ranks.readPlaces(line, row, i)) {
            return UNKNOWN;
        }
        int bar = ranks.firstBar(line);
        if (what == 1) {
            return bar;
        }
        return bar == NONE ? ranks.changes(line) : NONE;
    }

    public int coming() {
        return line.isThere() ? ranks.howManyCome(line) : STATE;
    }

    public int letters(int p) {
        if (p != -1 && !line.isPerson(p)) {
            return UNKNOWN;
        }
        if (!line.isThere()) {
            return STATE;
        }
        int least = pairing.leastReaders(line);
        return p == -1 || least == NONE ? least : pairing.mateOf(line, p);
    }

    // ---- 5 tearing, what was heard

    public long heard(int p, int g, int which) {
        if (!line.isPerson(p) || !isTenths(g) || which < 0 || which > 1) {
            return LOST;
        }
        long upper = hearers(p, g);
        long lower = whole();
        long common = commonDivisor(upper, lower);
        if (common < 1) {
            return LOST;
        }
        return (which == 0 ? upper : lower) / common;
    }

    public int stand(int g) {
        if (!isTenths(g)) {
            return OUTSIDE;
        }
        if (!line.isThere()) {
            return STATE;
        }
        int best = 0;
        for (int p = 1; p < line.persons; p++) {
            if (hearers(p, g) > hearers(best, g)) {
                best = p;
            }
        }
        return best;
    }

    public int reading(int from, int v, int to, int x) {
        if (!line.isPerson(from) || !line.isPerson(to)) {
            return UNKNOWN;
        }
        if (!isNumber(v) || !(isNumber(x) || x == NONE)) {
            return OUTSIDE;
        }
        return readings.takeOne(from, v, to, x);
    }

    public int back(int k) {
        if (k < 0 || k > readings.count) {
            return OUTSIDE;
        }
        readings.count -= k;
        return readings.count;
    }

    public int kinds(int p) {
        if (!line.isPerson(p)) {
            return UNKNOWN;
        }
        int own = line.kind[p];
        int set = 0;
        for (int kind = 0; kind < KINDS; kind++) {
            line.kind[p] = kind;
            if (readings.areAllSo(line, spread)) {
                set |= 1 << kind;
            }
        }
        line.kind[p] = own;
        return set;
    }

    public int walls() {
        if (!line.isThere()) {
            return STATE;
        }
        int set = 0;
        for (int e = 0; e < line.edges; e++) {
            boolean was = line.walled[e];
            line.walled[e] = true;
            if (readings.areAllSo(line, spread)) {
                set |= 1 << e;
            }
            line.walled[e] = was;
        }
        return set;
    }

    // ---- 6 sheets, parts

    public int sheet(int k, int lane, int n) {
        latestFault = 0;
        if (!isSheet(k)) {
            return UNKNOWN;
        }
        if (!isLane(lane) || n > MOST_CELLS) {
            return OUTSIDE;
        }
        if (n < 0) {
            return failed(SIZE);
        }
        sheets[k].becomeNew(lane, n);
        return 1;
    }

    public int lose(int k) {
        if (!isSheet(k)) {
            return UNKNOWN;
        }
        if (!sheets[k].there) {
            return 0;
        }
        sheets[k].there = false;
        return 1;
    }

    public int put(int k, int i, int v) {
        latestFault = 0;
        if (!isSheet(k)) {
            return UNKNOWN;
        }
        if (!sheets[k].there) {
            return failed(NULL);
        }
        if (!sheets[k].hasCells(i, 1)) {
            return failed(INDEX);
        }
        sheets[k].store(i, v);
        return 1;
    }

    public long cell(int k, int i, int lane) {
        latestFault = 0;
        if (!isSheet(k) || !isLane(lane)) {
            return LOST;
        }
        int met = sheets[k].faultOfCells(lane, i, 1);
        if (met != 0) {
            latestFault = met;
            return LOST;
        }
        return sheets[k].cells[i];
    }

    public int copy(int k, int i, int other, int j, int n) {
        latestFault = 0;
        if (!isSheet(k) || !isSheet(other)) {
            return UNKNOWN;
        }
        Sheet from = sheets[k];
        Sheet to = sheets[other];
        if (!from.there || !to.there) {
            return failed(NULL);
        }
        if (from.lane != to.lane) {
            return failed(CAST);
        }
        if (!from.hasCells(i, n) || !to.hasCells(j, n)) {
            return failed(INDEX);
        }
        System.arraycopy(from.cells, i, to.cells, j, n);
        return n;
    }

    public int tell(int p) {
        if (!line.isPerson(p)) {
            return UNKNOWN;
        }
        switch (line.kind[p]) {
            case TALKER:
                return tellTalker(p);
            case GRUDGER:
                return tellGrudger(p);
            default:
                return tellPerson(p);
        }
    }

    public int lean(int p) {
        if (!line.isPerson(p)) {
            return UNKNOWN;
        }
        if (line.kind[p] == TALKER) {
            leaveTrace(5);
            return 70;
        }
        leaveTrace(4);
        return p;
    }

    public int as(int p, int kind) {
        latestFault = 0;
        if (!line.isPerson(p)) {
            return UNKNOWN;
        }
        if (kind < 0 || kind >= KINDS) {
            return OUTSIDE;
        }
        // Each kind is one of all kinds with a lesser number, too.
        return line.kind[p] >= kind ? 1 : failed(CAST);
    }

    public int trace() {
        return traced;
    }

    public int fault() {
        return latestFault;
    }

    public int many(int what) {
        switch (what) {
            case 0:
                return line.persons;
            case 1:
                return line.edges;
            case 2:
                return line.howManyWalled();
            case 3:
                return readings.count;
            case 4:
                return line.loop ? 1 : 0;
            default:
                return OUTSIDE;
        }
    }

    // ---- what the calls have in common

    private int failed(int met) {
        latestFault = met;
        return -10 - met;
    }

    private static boolean isSheet(int k) {
        return k >= 0 && k < SHEETS;
    }

    private static boolean isLane(int lane) {
        return lane >= 0 && lane < LANES;
    }

    private static boolean isNumber(int v) {
        return v >= 0 && v < NUMBERS;
    }

    private static boolean isTenths(int g) {
        return g >= 0 && g <= TENTHS;
    }

    // ---- the text

    /** The FIRST FAULT of n cells from i on, which are there; NONE: they are a TEXT. */
    private static int firstFault(Sheet text, int i, int n) {
        for (int place = 0; place < n; place++) {
            if (!goesOn(place, text.load(i + place))) {
                return place;
            }
        }
        boolean ends = n >= TEXT_HEAD + LEAST_PERSONS * CODES_OF_PERSON
                && (n - TEXT_HEAD) % CODES_OF_PERSON == 0;
        return ends ? NONE : n;
    }

    /** Whether some TEXT has this code at this place, all codes ahead of it being right. */
    private static boolean goesOn(int place, int code) {
        if (place == 0) {
            return code == 'w';
        }
        if (place == 1) {
            return isDigit(code, 1);
        }
        if (place >= TEXT_HEAD + MOST_PERSONS * CODES_OF_PERSON) {
            return false;
        }
        switch ((place - TEXT_HEAD) % CODES_OF_PERSON) {
            case 0:
                return code == ';';
            case 1:
                return code == 'p' || code == 'g' || code == 't';
            case 2:
                return isDigit(code, 9);
            default:
                return isDigit(code, GOODS - 1);
        }
    }

    private static boolean isDigit(int code, int most) {
        return code >= '0' && code <= '0' + most;
    }

    // ---- tearing

    /** How many others one is HEARD by in the mean, in parts of whole(). */
    private long hearers(int p, int g) {
        long sum = 0;
        for (int other = 0; other < line.persons; other++) {
            if (other != p) {
                sum += reaching(line.wayRight(p, other), line.wayRight(other, p), g);
            }
        }
        return sum;
    }

    /** How likely one of two ways of so many EDGES (NONE: there is none) is whole. */
    private long reaching(int one, int two, int g) {
        if (one == NONE && two == NONE) {
            return 0;
        }
        if (two == NONE) {
            return allWhole(one, g);
        }
        if (one == NONE) {
            return allWhole(two, g);
        }
        return allWhole(one, g) + allWhole(two, g) - allWhole(one + two, g);
    }

    /** How likely so many EDGES are whole, in parts of whole(). */
    private long allWhole(int edges, int g) {
        long share = 1;
        for (int e = 0; e < line.edges; e++) {
            share *= e < edges ? TENTHS - g : TENTHS;
        }
        return share;
    }

    private long whole() {
        return allWhole(0, 0);
    }

    private static long commonDivisor(long a, long b) {
        long greater = a;
        long lesser = b;
        // Each two rounds halve the numbers, so that 200 are more than longs can need.
        for (int round = 0; round < 200 && lesser != 0; round++) {
            long rest = greater % lesser;
            greater = lesser;
            lesser = rest;
        }
        return greater;
    }

    // ---- telling

    private void leaveTrace(int body) {
        traced = 31 * traced + body;
    }

    private int tellPerson(int p) {
        leaveTrace(1);
        return line.isPerson(p) ? line.strength[p] : 0;
    }

    private int tellGrudger(int p) {
        leaveTrace(2);
        return tellPerson(p) + 100;
    }

    private int tellTalker(int p) {
        leaveTrace(3);
        return tellGrudger(p) + tellPerson(p);
    }

    /** Nothing, or a row of numbers of a LANE. */
    private static final class Sheet {
        private boolean there = false;
        private int lane = BYTES;
        private int length = 0;
        private final int[] cells = new int[MOST_CELLS];

        private void becomeNew(int itsLane, int n) {
            there = true;
            lane = itsLane;
            length = n;
            Arrays.fill(cells, 0);
        }

        private boolean hasCells(int i, int n) {
            return n >= 0 && i >= 0 && i <= length - n;
        }

        /** The first FAULT of n cells from i on, taken as a row of a LANE; 0: there is none. */
        private int faultOfCells(int asLane, int i, int n) {
            // Nothing is no CAST: it is of every LANE.
            if (there && lane != asLane) {
                return CAST;
            }
            if (!there) {
                return NULL;
            }
            if (n < 0) {
                return SIZE;
            }
            return hasCells(i, n) ? 0 : INDEX;
        }

        private int load(int i) {
            return i >= 0 && i < length ? cells[i] : 0;
        }

        private void store(int i, int v) {
            if (i >= 0 && i < length) {
                cells[i] = lane == BYTES ? (byte) v : lane == SHORTS ? (short) v : v;
            }
        }
    }

    /** The WIRE: its PERSONS by PLACES, and the EDGES with a GRUDGE; no PERSONS: no WIRE. */
    private static final class Line {
        private int persons = 0;
        private int edges = 0;
        private boolean loop = false;
        private final int[] kind = new int[MOST_PERSONS];
        private final int[] strength = new int[MOST_PERSONS];
        private final int[] has = new int[MOST_PERSONS];
        private final int[] wishes = new int[MOST_PERSONS];
        private final boolean[] walled = new boolean[MOST_PERSONS];

        private void takeText(Sheet text, int i, int n) {
            loop = text.load(i + 1) == '1';
            persons = Math.min((n - TEXT_HEAD) / CODES_OF_PERSON, MOST_PERSONS);
            edges = loop ? persons : persons - 1;
            for (int p = 0; p < persons; p++) {
                int at = i + TEXT_HEAD + p * CODES_OF_PERSON;
                kind[p] = kindOf(text.load(at + 1));
                strength[p] = text.load(at + 2) - '0';
                has[p] = text.load(at + 3) - '0';
                wishes[p] = text.load(at + 4) - '0';
            }
            for (int e = 0; e < walled.length; e++) {
                walled[e] = false;
            }
        }

        private static int kindOf(int letter) {
            return letter == 't' ? TALKER : letter == 'g' ? GRUDGER : PERSON;
        }

        private boolean isThere() {
            return persons > 0;
        }

        private boolean isPerson(int p) {
            return p >= 0 && p < persons;
        }

        private boolean isEdge(int e) {
            return e >= 0 && e < edges;
        }

        private boolean isOpen(int e) {
            return isEdge(e) && !walled[e];
        }

        /** The PLACE at an EDGE's right end, which is the first again past the last one. */
        private int rightEnd(int e) {
            return e + 1 < persons ? e + 1 : 0;
        }

        /** The number of the EDGE on the left of a PLACE; on a line's first there is none of it. */
        private int edgeOnLeft(int p) {
            return p > 0 ? p - 1 : persons - 1;
        }

        private int howManyWalled() {
            int count = 0;
            for (int e = 0; e < edges; e++) {
                if (walled[e]) {
                    count++;
                }
            }
            return count;
        }

        private void changeGoods(int e) {
            if (isEdge(e)) {
                int right = rightEnd(e);
                int good = has[e];
                has[e] = has[right];
                has[right] = good;
            }
        }

        /** How many EDGES, all without GRUDGE, lead rightwards from one to another; NONE: not so. */
        private int wayRight(int from, int to) {
            int at = from;
            for (int count = 0; count <= persons; count++) {
                if (at == to) {
                    return count;
                }
                if (!isOpen(at)) {
                    return NONE;
                }
                at = rightEnd(at);
            }
            return NONE;
        }

        /** What a PERSON makes of NEWS that it has from another one. */
        private int altered(int p, int v) {
            if (!isPerson(p) || kind[p] == PERSON) {
                return v;
            }
            int grudgers = (v + strength[p]) % NUMBERS;
            return kind[p] == TALKER ? 2 * grudgers % NUMBERS : grudgers;
        }
    }

    /** NEWS that go over the WIRE: what each has, and since which DAY (both NONE: never). */
    private static final class Spread {
        private final int[] value = new int[MOST_PERSONS];
        private final int[] day = new int[MOST_PERSONS];

        private void tellFrom(Line line, int from, int v) {
            Arrays.fill(value, NONE);
            Arrays.fill(day, NONE);
            if (!line.isPerson(from)) {
                return;
            }
            value[from] = v;
            day[from] = 0;
            for (int today = 1; today < line.persons; today++) {
                // Rising PLACES: of two who pass on to one, the lesser comes first and is heard.
                for (int p = 0; p < line.persons; p++) {
                    if (day[p] == today - 1) {
                        passOn(line, p, p == from ? v : line.altered(p, value[p]), today);
                    }
                }
            }
        }

        private void passOn(Line line, int p, int what, int today) {
            int left = line.edgeOnLeft(p);
            if (line.isOpen(left)) {
                hear(left, what, today);
            }
            if (line.isOpen(p)) {
                hear(line.rightEnd(p), what, today);
            }
        }

        private void hear(int p, int what, int today) {
            if (p >= 0 && p < day.length && day[p] == NONE) {
                value[p] = what;
                day[p] = today;
            }
        }
    }

    /**
     * GOODS. All that are HAD are held in one number, two bits for each PLACE, and sought through
     * in the order of how many steps they take.
     */
    private static final class Trade {
        // Seven goods of four kinds stand in 7! / (2! 2! 2! 1!) ways at the most.
        private static final int MOST_WAYS = 630;
        private static final int BITS_OF_WORD = 64, WORDS = (1 << 2 * MOST_PERSONS) / BITS_OF_WORD;

        private final long[] seen = new long[WORDS];
        private final int[] queue = new int[MOST_WAYS];
        private int queued = 0;
        private final int[] steps = new int[EDGE_SETS];
        private int howManySteps = 0;
        private final int[] turned = new int[EDGE_SETS];

        /** The fewest HANDS, or DAYS of HANDS, by which each HAS what it WISHES; NONE. */
        private int leastSteps(Line line, boolean byDays) {
            int goal = held(line.wishes, line.persons);
            gatherSteps(line, byDays);
            Arrays.fill(seen, 0L);
            queued = 0;
            meet(held(line.has, line.persons));
            int at = 0;
            for (int count = 0; count < MOST_WAYS && at < queued; count++) {
                int end = queued;
                for (; at < end; at++) {
                    if (queue[at] == goal) {
                        return count;
                    }
                    goOnFrom(line, queue[at]);
                }
            }
            return NONE;
        }

        private static int held(int[] goods, int persons) {
            int all = 0;
            for (int p = 0; p < persons && p < goods.length; p++) {
                all |= goods[p] << 2 * p;
            }
            return all;
        }

        /** A step is a set of EDGES: of one alone, or of as many as can have HANDS on one DAY. */
        private void gatherSteps(Line line, boolean byDays) {
            howManySteps = 0;
            int sets = 1 << line.edges;
            for (int set = 1; set < sets && howManySteps < steps.length; set++) {
                boolean isOneEdge = (set & (set - 1)) == 0;
                if ((byDays || isOneEdge) && isOneDay(line, set)) {
                    steps[howManySteps] = set;
                    howManySteps++;
                }
            }
        }

        private static boolean isOneDay(Line line, int set) {
            int busy = 0;
            for (int e = 0; e < line.edges; e++) {
                if ((set >> e & 1) != 0) {
                    int ends = 1 << e | 1 << line.rightEnd(e);
                    if (!line.isOpen(e) || (busy & ends) != 0) {
                        return false;
                    }
                    busy |= ends;
                }
            }
            return true;
        }

        private void goOnFrom(Line line, int all) {
            turned[0] = 0;
            for (int e = 0; e < line.edges; e++) {
                turned[1 << e] = turnedBy(all, e, line.rightEnd(e));
            }
            for (int s = 0; s < howManySteps && s < steps.length; s++) {
                int set = steps[s];
                // Rising sets: what all but the set's lowest EDGE turn is known already.
                int rest = set & (set - 1);
                if (rest != 0) {
                    turned[set] = turned[rest] ^ turned[set ^ rest];
                }
                meet(all ^ turned[set]);
            }
        }

        /** The bits that turn over, if the GOODS at two PLACES are changed. */
        private static int turnedBy(int all, int one, int two) {
            int unlike = (all >> 2 * one ^ all >> 2 * two) & 3;
            return unlike << 2 * one | unlike << 2 * two;
        }

        private void meet(int all) {
            int word = all / BITS_OF_WORD;
            if (all < 0 || word >= seen.length || queued >= queue.length) {
                return;
            }
            long bit = 1L << all % BITS_OF_WORD;
            if ((seen[word] & bit) == 0) {
                seen[word] |= bit;
                queue[queued] = all;
                queued++;
            }
        }

        /** The CUT of an EDGE of a line. */
        private int mustGoOver(Line line, int e) {
            int sum = 0;
            for (int good = 0; good < GOODS; good++) {
                int more = 0;
                for (int p = 0; p <= e && p < line.persons; p++) {
                    more += line.has[p] == good ? 1 : 0;
                    more -= line.wishes[p] == good ? 1 : 0;
                }
                sum += Math.max(more, 0);
            }
            return sum;
        }
    }

    /** ORDERS, by the PLACES in a told one of which each PERSON is to stand. */
    private static final class Ranks {
        private final int[] place = new int[MOST_PERSONS];
        private final int[] ways = new int[PERSON_SETS];

        /** Reads an ORDER from i on; false: a cell is no PERSON, or one that stands there already. */
        private boolean readPlaces(Line line, Sheet row, int i) {
            Arrays.fill(place, NONE);
            for (int at = 0; at < line.persons; at++) {
                int p = row.load(i + at);
                if (!line.isPerson(p) || place[p] != NONE) {
                    return false;
                }
                place[p] = at;
            }
            return true;
        }

        private static boolean mayChange(Line line, int left, int right) {
            return line.strength[right] >= line.strength[left];
        }

        private int firstBar(Line line) {
            for (int left = 0; left < line.persons; left++) {
                for (int right = left + 1; right < line.persons; right++) {
                    if (place[right] < place[left] && !mayChange(line, left, right)) {
                        return 10 * left + right;
                    }
                }
            }
            return NONE;
        }

        /** Each pair that must change does so just once, and no other one. */
        private int changes(Line line) {
            int count = 0;
            for (int left = 0; left < line.persons; left++) {
                for (int right = left + 1; right < line.persons; right++) {
                    if (place[right] < place[left]) {
                        count++;
                    }
                }
            }
            return count;
        }

        /** COMING, by sets of those who stand leftmost: in how many ways each set can stand there. */
        private int howManyCome(Line line) {
            int sets = 1 << line.persons;
            ways[0] = 1;
            for (int set = 1; set < sets && set < ways.length; set++) {
                ways[set] = 0;
                for (int last = 0; last < line.persons; last++) {
                    int bit = 1 << last;
                    if ((set & bit) != 0 && (mustBeAhead(line, last) & ~set) == 0) {
                        ways[set] += ways[set ^ bit];
                    }
                }
            }
            return ways[sets - 1];
        }

        /** Those on the left of one that it can't get over, as a set. */
        private static int mustBeAhead(Line line, int p) {
            int set = 0;
            for (int left = 0; left < p; left++) {
                if (!mayChange(line, left, p)) {
                    set |= 1 << left;
                }
            }
            return set;
        }
    }

    /** WEDDINGS, by sets of PERSONS: the fewest READERS of the letters within each; NONE. */
    private static final class Pairing {
        private final int[] fewestOf = new int[PERSON_SETS];

        private int leastReaders(Line line) {
            int sets = 1 << line.persons;
            fewestOf[0] = 0;
            for (int set = 1; set < sets && set < fewestOf.length; set++) {
                fewestOf[set] = NONE;
                int first = leastOf(set);
                for (int mate = first + 1; mate < line.persons; mate++) {
                    int readers = readersWith(line, set, first, mate);
                    if (readers != NONE && (fewestOf[set] == NONE || readers < fewestOf[set])) {
                        fewestOf[set] = readers;
                    }
                }
            }
            return fewestOf[sets - 1];
        }

        /** The fewest READERS of a set, if its first one weds a told one; NONE. */
        private int readersWith(Line line, int set, int first, int mate) {
            boolean mayWed = (set >> mate & 1) != 0 && line.wishes[first] != line.wishes[mate];
            if (!mayWed) {
                return NONE;
            }
            int rest = fewestOf[set ^ 1 << first ^ 1 << mate];
            return rest == NONE ? NONE : rest + between(line, first, mate);
        }

        private static int between(Line line, int first, int mate) {
            int within = mate - first - 1;
            return line.loop ? Math.min(within, line.persons - 2 - within) : within;
        }

        private static int leastOf(int set) {
            int p = 0;
            while (p < MOST_PERSONS - 1 && (set >> p & 1) == 0) {
                p++;
            }
            return p;
        }

        /** The MATE, if all can be paired: the first ones wed the least that the fewest allow. */
        private int mateOf(Line line, int p) {
            int set = (1 << line.persons) - 1;
            for (int pair = 0; pair < line.persons && set != 0; pair++) {
                int first = leastOf(set);
                int mate = first + 1;
                while (mate < line.persons - 1 && readersWith(line, set, first, mate) != fewestOf[set]) {
                    mate++;
                }
                if (p == first || p == mate) {
                    return p == first ? mate : first;
                }
                set &= ~(1 << first | 1 << mate);
            }
            return NONE;
        }
    }

    /** What was heard: who told which number, and what another one had then (NONE: none at all). */
    private static final class Readings {
        private int count = 0;
        private final int[] teller = new int[MOST_READINGS];
        private final int[] told = new int[MOST_READINGS];
        private final int[] hearer = new int[MOST_READINGS];
        private final int[] had = new int[MOST_READINGS];

        private int takeOne(int from, int v, int to, int x) {
            if (count >= MOST_READINGS) {
                return FULL;
            }
            int number = count;
            teller[number] = from;
            told[number] = v;
            hearer[number] = to;
            had[number] = x;
            count++;
            return number;
        }

        private boolean areAllSo(Line line, Spread spread) {
            for (int r = 0; r < count; r++) {
                spread.tellFrom(line, teller[r], told[r]);
                if (spread.value[hearer[r]] != had[r]) {
                    return false;
                }
            }
            return true;
        }
    }
}
