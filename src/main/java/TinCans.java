import java.util.Arrays;

/** Tin cans across a court; what each call promises stands in the document, DOC.md. */
public final class TinCans {
    public static final int NONE = -1;

    private static final int NO_SUCH = -2;
    private static final int CANNOT_BE = -3;
    private static final int TOO_MANY = -4;
    private static final int NOT_NOW = -5;
    private static final int ROW_MISSING = -6;
    private static final int NO_NUMBER = -7;
    private static final int MAY_NOT = -10;
    private static final int FAULTY = -30;

    private static final int FEWEST_WINDOWS = 3;
    private static final int MOST_WINDOWS = 12;
    private static final int MOST_CANS = 11;
    private static final int CANS_AT_FIRST = 3;
    private static final int MOST_WASHES = 8;
    private static final int MOST_DAMP = 20;
    private static final int MOST_HEARD = 999;
    private static final int HEARD_AT_FIRST = 60;
    private static final int MOST_KNOTS = 9;
    private static final int KNOT_LOSS = 3;
    /** Strings that don't cross are a ring and what cuts it into triangles. */
    private static final int MOST_STRINGS = 2 * MOST_WINDOWS - 3;
    private static final int PAIR_BASE = 20;
    private static final int PAIR_BOUND = PAIR_BASE * MOST_WINDOWS;

    private static final int HOURS_ROUND = 12;
    private static final int ALL_HOURS = 4095;
    private static final int MOST_HOUR = 9999;
    private static final int MOST_HOURS_AT_ONCE = 99;
    private static final int MOST_GUST = 60;

    private static final int TAPE_BYTES = 900;
    private static final int FEED_BYTES = 20;
    private static final int ROWS = 4;
    private static final int MOST_NUMBERS = 40;
    private static final int SORTS = 4;
    private static final int IMAGES = 2;
    private static final int MOST_TOGETHER = 12;
    /** What 10 + k asks for place k. */
    private static final int PLACES = 10;

    private final Reader reader;
    private Court now;
    /** A text is told here first and then changes places with now, so that a fault leaves now alone. */
    private Court spare;
    private final Ways ways;
    private final Gap gap;
    private final Choice choice;
    private final Switchboard switchboard;
    private final Row[] rows;
    private final Court[] images;
    private final boolean[] imageMade;

    public TinCans() {
        reader = new Reader();
        now = new Court();
        spare = new Court();
        ways = new Ways();
        gap = new Gap();
        choice = new Choice();
        switchboard = new Switchboard();
        rows = new Row[ROWS];
        for (int i = 0; i < ROWS; i++) {
            rows[i] = new Row();
        }
        images = new Court[IMAGES];
        imageMade = new boolean[IMAGES];
        for (int i = 0; i < IMAGES; i++) {
            images[i] = new Court();
        }
    }

    // ---- the court

    public int feed(int a, int b, int c, int d, int e) {
        if (reader.taped + FEED_BYTES > TAPE_BYTES) {
            return NOT_NOW;
        }
        reader.putOnTape(a);
        reader.putOnTape(b);
        reader.putOnTape(c);
        reader.putOnTape(d);
        reader.putOnTape(e);
        return reader.taped;
    }

    public int court(int n) {
        if (n < 0 || n > reader.taped) {
            return CANNOT_BE;
        }
        reader.readTape(spare, n);
        if (reader.fault != 0) {
            return FAULTY - reader.fault;
        }
        Court told = spare;
        spare = now;
        now = told;
        return now.lines;
    }

    public int fault(int what) {
        switch (what) {
            case 0:
                return reader.fault;
            case 1:
                return reader.place;
            default:
                return NONE;
        }
    }

    public int window(int w, int what) {
        if (!now.hasWindow(w)) {
            return NO_SUCH;
        }
        switch (what) {
            case 0:
                return now.cans[w];
            case 1:
                return now.stringsAt(w);
            case 2:
                return Integer.bitCount(linksNow(w));
            case 3:
                return linksNow(w);
            default:
                return NO_SUCH;
        }
    }

    public int cross(int one, int other) {
        if (!now.hasPair(one) || !now.hasPair(other)) {
            return NO_SUCH;
        }
        return crossing(one, other) ? 1 : 0;
    }

    public int pair(int pair, int what) {
        if (!now.hasPair(pair)) {
            return NO_SUCH;
        }
        int index = now.indexOf(pair);
        switch (what) {
            case 0:
                return now.lengthOf(pair);
            case 1:
                return index == NONE ? NONE : now.knots[index];
            case 2:
                return index == NONE ? now.bareLoss(pair) : now.lossAt(index);
            case 3:
                return now.slackAt(pair, now.hour) ? 1 : 0;
            default:
                return NO_SUCH;
        }
    }

    // ---- strings

    public int may(int pair) {
        return now.whyNot(pair);
    }

    public int tie(int pair, int knots) {
        int why = now.whyNot(pair);
        if (why != 0) {
            return MAY_NOT - why;
        }
        if (knots < 0 || knots > MOST_KNOTS) {
            return CANNOT_BE;
        }
        now.addString(pair, knots);
        return now.strings;
    }

    public int cut(int pair) {
        int index = now.indexOf(pair);
        if (index == NONE) {
            return NO_SUCH;
        }
        now.removeString(index);
        return now.strings;
    }

    public int knot(int pair) {
        int index = now.indexOf(pair);
        if (index == NONE) {
            return NO_SUCH;
        }
        if (now.knots[index] >= MOST_KNOTS) {
            return TOO_MANY;
        }
        now.knots[index]++;
        return now.knots[index];
    }

    public int tieAll(int row) {
        int refusal = rowRefusal(row);
        if (refusal != 0) {
            return refusal;
        }
        Row told = rows[row];
        int tied = 0;
        for (int i = 0; i < told.size; i++) {
            long number = told.numberAt(i);
            if (now.hasPair(number) && now.whyNot((int) number) == 0) {
                now.addString((int) number, 0);
                tied++;
            }
        }
        return tied;
    }

    public int pass(int hours) {
        if (hours < 0 || hours > MOST_HOURS_AT_ONCE) {
            return CANNOT_BE;
        }
        if (now.hour + hours > MOST_HOUR) {
            return NOT_NOW;
        }
        now.hour += hours;
        return now.hour;
    }

    public int damp(int n) {
        if (n < 0 || n > MOST_DAMP) {
            return CANNOT_BE;
        }
        int was = now.damp;
        now.damp = n;
        return was;
    }

    public int gust(int seed, int times) {
        if (now.windows < 1) {
            return NOT_NOW;
        }
        if (times < 1 || times > MOST_GUST) {
            return CANNOT_BE;
        }
        int x = seed;
        for (int i = 0; i < times; i++) {
            x = blow(x);
        }
        return now.strings;
    }

    // ---- ways

    public int best(int a, int b, int past, int what) {
        boolean place = what >= PLACES && what < PLACES + MOST_WINDOWS;
        if (!areTwoWindows(a, b) || !(what == 0 || what == 1 || place)) {
            return NO_SUCH;
        }
        int others = now.everyWindow() & ~(1 << a) & ~(1 << b);
        if ((past & ~others) != 0) {
            return CANNOT_BE;
        }
        ways.takeStrings(now, now.hour);
        ways.measure(b, past);
        if (what == 0) {
            return ways.lossFrom(a);
        }
        if (what == 1) {
            return ways.stringsFrom(a);
        }
        return ways.windowOnWay(a, what - PLACES);
    }

    public int hears(int a) {
        if (!now.hasWindow(a)) {
            return NO_SUCH;
        }
        ways.takeStrings(now, now.hour);
        ways.measure(a, 0);
        int heardAt = 0;
        for (int w = 0; w < now.windows; w++) {
            if (w != a && ways.isHeardFrom(w, now.heard)) {
                heardAt |= 1 << w;
            }
        }
        return heardAt;
    }

    public int overhears(int a, int b) {
        if (!areTwoWindows(a, b)) {
            return NO_SUCH;
        }
        ways.takeStrings(now, now.hour);
        ways.measure(b, 0);
        int between = 0;
        for (int k = 1; k < ways.stringsFrom(a); k++) {
            between |= 1 << ways.windowOnWay(a, k);
        }
        return between;
    }

    public int needs(int a, int b) {
        if (!areTwoWindows(a, b)) {
            return NO_SUCH;
        }
        ways.takeStrings(now, now.hour);
        if (!heardPast(a, b, 0)) {
            return NONE;
        }
        for (int w = 0; w < now.windows; w++) {
            if (w != a && w != b && !heardPast(a, b, 1 << w)) {
                return w;
            }
        }
        return NONE;
    }

    public int openHours(int pair) {
        if (!now.hasPair(pair)) {
            return NO_SUCH;
        }
        int open = 0;
        for (int hour = 0; hour < HOURS_ROUND; hour++) {
            ways.takeStrings(now, hour);
            if (heardPast(lesser(pair), greater(pair), 0)) {
                open |= 1 << hour;
            }
        }
        return open;
    }

    public int part(int w) {
        if (!now.hasWindow(w)) {
            return NO_SUCH;
        }
        ways.takeStrings(now, now.hour);
        return ways.reachOf(w);
    }

    public int parts() {
        ways.takeStrings(now, now.hour);
        int found = 0;
        int seen = 0;
        for (int w = 0; w < now.windows; w++) {
            if ((seen >> w & 1) == 0) {
                seen |= ways.reachOf(w);
                found++;
            }
        }
        return found;
    }

    public int stay(int k) {
        ways.takeStrings(now, now.hour);
        return k == NONE ? ways.stays() : ways.stayAt(k);
    }

    public int brace() {
        ways.takeStrings(now, now.hour);
        int found = NONE;
        int fewest = 0;
        for (int a = 0; a < now.windows; a++) {
            for (int b = a + 1; b < now.windows; b++) {
                int pair = pairOf(a, b);
                if (!now.mayBeTaut(pair)) {
                    continue;
                }
                int left = staysWith(a, b);
                boolean better = found == NONE || left < fewest
                        || left == fewest && now.lengthOf(pair) < now.lengthOf(found);
                if (better) {
                    found = pair;
                    fewest = left;
                }
            }
        }
        return found;
    }

    public int both(int one, int other) {
        if (!now.hasPair(one) || !now.hasPair(other)) {
            return NO_SUCH;
        }
        if ((endsOf(one) & endsOf(other)) != 0) {
            return CANNOT_BE;
        }
        ways.takeStrings(now, now.hour);
        return ways.leastApart(one, other);
    }

    public int renewed(int pair, int what) {
        if (!now.hasPair(pair) || what < 0 || what > 1) {
            return NO_SUCH;
        }
        int from = lesser(pair);
        int to = greater(pair);
        ways.takeStrings(now, now.hour);
        ways.measure(to, 0);
        int loss = ways.lossFrom(from);
        if (loss == NONE) {
            return NOT_NOW;
        }
        int most = 0;
        int found = NONE;
        for (int i = 0; i < now.strings; i++) {
            int less = now.knots[i] == 0 ? 0 : loss - lossWithoutKnots(i, from, to);
            if (less > most) {
                most = less;
                found = now.pairs[i];
            }
        }
        return what == 0 ? most : found;
    }

    public int exchange(int what) {
        if (what < 0 || what > 2) {
            return NO_SUCH;
        }
        ways.takeStrings(now, now.hour);
        int found = NONE;
        int most = NONE;
        int least = NONE;
        for (int w = 0; w < now.windows; w++) {
            ways.measure(w, 0);
            int others = ways.heardCount(w, now.heard);
            int loss = ways.heardLoss(w, now.heard);
            if (others > most || others == most && loss < least) {
                found = w;
                most = others;
                least = loss;
            }
        }
        if (what == 0) {
            return found;
        }
        return what == 1 ? most : least;
    }

    public int missing(int a, int b, int what) {
        if (!areTwoWindows(a, b) || what < 0 || what > 2) {
            return NO_SUCH;
        }
        ways.takeStrings(now, now.hour);
        gap.seek(now, ways, a, b);
        if (what == 0) {
            return gap.size;
        }
        return what == 1 ? gap.first : gap.second;
    }

    // ---- nets

    public int together(int row, int what) {
        if (!isRow(row) || what < 0 || what > 2) {
            return NO_SUCH;
        }
        int refusal = pairsRefusal(row);
        if (refusal != 0) {
            return refusal;
        }
        if (rows[row].size > MOST_TOGETHER) {
            return TOO_MANY;
        }
        choice.choose(now, rows[row]);
        if (what == 0) {
            return choice.most;
        }
        return what == 1 ? choice.leastLength : choice.leastPlaces;
    }

    public int shut(int row, int place) {
        int refusal = rowRefusal(row);
        if (refusal != 0) {
            return refusal;
        }
        Row told = rows[row];
        if (place < 0 || place >= told.size) {
            return NO_NUMBER;
        }
        refusal = pairsRefusal(row);
        if (refusal != 0) {
            return refusal;
        }
        int crossed = 0;
        for (int i = 0; i < told.size; i++) {
            if (crossing((int) told.numberAt(place), (int) told.numberAt(i))) {
                crossed++;
            }
        }
        return crossed;
    }

    /**
     * Neighbours' pairs have no window between them, so nothing crosses them, washing or pairs; and
     * each is shorter than any other pair. So the least webs are the ring less any one of its sides.
     */
    public int web(int what) {
        if (what < 0 || what > 1) {
            return NO_SUCH;
        }
        if (now.windows < 1) {
            return NOT_NOW;
        }
        int sides = now.windows - 1;
        int sideLength = now.windows - 1;
        return what == 0 ? sides * sideLength : now.windows;
    }

    /** A pair that may not be tied never may again while strings only come, so one round is all. */
    public int more() {
        spare.takeFrom(now);
        for (int a = 0; a < spare.windows; a++) {
            for (int b = a + 1; b < spare.windows; b++) {
                if (spare.whyNot(pairOf(a, b)) == 0) {
                    spare.addString(pairOf(a, b), 0);
                }
            }
        }
        return spare.strings - now.strings;
    }

    // ---- calls, echoes

    public int calls(int row, int what) {
        boolean place = what >= PLACES && what < PLACES + MOST_NUMBERS;
        if (!isRow(row) || !(what >= 0 && what <= 2 || place)) {
            return NO_SUCH;
        }
        int refusal = pairsRefusal(row);
        if (refusal != 0) {
            return refusal;
        }
        ways.takeStrings(now, now.hour);
        switchboard.placeCalls(now, ways, rows[row]);
        switch (what) {
            case 0:
                return switchboard.placed;
            case 1:
                return switchboard.ended;
            case 2:
                return switchboard.waited;
            default:
                return switchboard.beginOf(what - PLACES);
        }
    }

    public int echo(int from, int to) {
        if (!now.hasWindow(from) || !now.hasWindow(to)) {
            return NO_SUCH;
        }
        ways.takeStrings(now, now.hour);
        ways.spread(from);
        return ways.breaths[to];
    }

    public int explained(int from, int row, int what) {
        if (!now.hasWindow(from) || !isRow(row) || what < 0 || what > 1) {
            return NO_SUCH;
        }
        Row told = rows[row];
        if (told.size == NONE) {
            return ROW_MISSING;
        }
        if (told.size != now.windows) {
            return NO_NUMBER;
        }
        ways.takeStrings(now, now.hour);
        if (ways.spreadsAs(from, told)) {
            return what == 0 ? 0 : NONE;
        }
        int pair = stringTooMany(from, told);
        if (pair != NONE) {
            return what == 0 ? 1 : pair;
        }
        pair = pairTooFew(from, told);
        if (pair != NONE) {
            return what == 0 ? 2 : pair;
        }
        return what == 0 ? 3 : NONE;
    }

    // ---- rows of numbers, images

    public int numbers(int row, int sort, int n) {
        if (!isRow(row) || sort < 0 || sort >= SORTS) {
            return NO_SUCH;
        }
        if (n < 0 || n > MOST_NUMBERS) {
            return CANNOT_BE;
        }
        rows[row].begin(sort, n);
        return 0;
    }

    public long write(int row, int i, long v) {
        int refusal = rowRefusal(row);
        if (refusal != 0) {
            return refusal;
        }
        if (i < 0 || i >= rows[row].size) {
            return NO_NUMBER;
        }
        return rows[row].put(i, v);
    }

    public int copy(int row) {
        int refusal = rowRefusal(row);
        if (refusal != 0) {
            return refusal;
        }
        int copied = Math.min(now.strings, rows[row].size);
        for (int i = 0; i < copied; i++) {
            rows[row].put(i, now.pairs[i]);
        }
        return copied;
    }

    public int image(int i) {
        if (i < 0 || i >= IMAGES) {
            return NO_SUCH;
        }
        images[i].takeFrom(now);
        imageMade[i] = true;
        return 0;
    }

    public int restore(int i) {
        if (i < 0 || i >= IMAGES) {
            return NO_SUCH;
        }
        if (!imageMade[i]) {
            return NOT_NOW;
        }
        now.takeFrom(images[i]);
        return 0;
    }

    public int count(int what) {
        switch (what) {
            case 0:
                return now.windows;
            case 1:
                return now.strings;
            case 2:
                return now.hour;
            case 3:
                return now.damp;
            case 4:
                return now.heard;
            case 5:
                return now.washes;
            case 6:
                return now.slackStrings();
            case 7:
                return now.lengthOfStrings();
            case 8:
                return reader.taped;
            case 9:
                return now.lines;
            default:
                return NONE;
        }
    }

    // ---- what the calls share

    private int linksNow(int w) {
        ways.takeStrings(now, now.hour);
        return ways.links[w];
    }

    private int blow(int seed) {
        int x = nextDraw(seed);
        int a = drawn(x, now.windows);
        x = nextDraw(x);
        int pair = pairOf(a, drawn(x, now.windows));
        int index = now.indexOf(pair);
        if (index != NONE) {
            now.removeString(index);
        } else if (now.whyNot(pair) == 0) {
            x = nextDraw(x);
            now.addString(pair, drawn(x, 3));
        }
        return x;
    }

    private static int nextDraw(int x) {
        return 1103515245 * x + 12345;
    }

    private static int drawn(int x, int bound) {
        return bound < 1 ? 0 : (x >>> 16) % bound;
    }

    private boolean areTwoWindows(int a, int b) {
        return now.hasWindow(a) && now.hasWindow(b) && a != b;
    }

    private boolean heardPast(int a, int b, int past) {
        ways.measure(b, past);
        return ways.isHeardFrom(a, now.heard);
    }

    private int staysWith(int a, int b) {
        ways.join(a, b);
        int left = ways.stays();
        ways.sever(a, b);
        return left;
    }

    private int lossWithoutKnots(int index, int from, int to) {
        int a = lesser(now.pairs[index]);
        int b = greater(now.pairs[index]);
        ways.setLoss(a, b, now.bareLoss(now.pairs[index]));
        ways.measure(to, 0);
        ways.setLoss(a, b, now.lossAt(index));
        return ways.lossFrom(from);
    }

    private int stringTooMany(int from, Row told) {
        for (int a = 0; a < now.windows; a++) {
            for (int b = a + 1; b < now.windows; b++) {
                if (!ways.areLinked(a, b)) {
                    continue;
                }
                ways.sever(a, b);
                boolean explains = ways.spreadsAs(from, told);
                ways.join(a, b);
                if (explains) {
                    return pairOf(a, b);
                }
            }
        }
        return NONE;
    }

    private int pairTooFew(int from, Row told) {
        for (int a = 0; a < now.windows; a++) {
            for (int b = a + 1; b < now.windows; b++) {
                if (!now.mayBeTaut(pairOf(a, b))) {
                    continue;
                }
                ways.join(a, b);
                boolean explains = ways.spreadsAs(from, told);
                ways.sever(a, b);
                if (explains) {
                    return pairOf(a, b);
                }
            }
        }
        return NONE;
    }

    private static boolean isRow(int row) {
        return row >= 0 && row < ROWS;
    }

    private int rowRefusal(int row) {
        if (!isRow(row)) {
            return NO_SUCH;
        }
        return rows[row].size == NONE ? ROW_MISSING : 0;
    }

    private int pairsRefusal(int row) {
        int refusal = rowRefusal(row);
        if (refusal != 0) {
            return refusal;
        }
        for (int i = 0; i < rows[row].size; i++) {
            if (!now.hasPair(rows[row].numberAt(i))) {
                return CANNOT_BE;
            }
        }
        return 0;
    }

    // ---- pairs as numbers

    private static int pairOf(int a, int b) {
        return PAIR_BASE * Math.min(a, b) + Math.max(a, b);
    }

    private static int lesser(int pair) {
        return pair / PAIR_BASE;
    }

    private static int greater(int pair) {
        return pair % PAIR_BASE;
    }

    private static int endsOf(int pair) {
        return 1 << lesser(pair) | 1 << greater(pair);
    }

    private static boolean crossing(int one, int other) {
        int a = lesser(one);
        int b = greater(one);
        int c = lesser(other);
        int d = greater(other);
        boolean unlike = a != c && a != d && b != c && b != d;
        return unlike && (c > a && c < b) != (d > a && d < b);
    }

    /** The court as told, its strings and its hour: all that an image keeps. */
    private static final class Court {
        private int windows;
        private int washes;
        private int damp;
        private int heard;
        private int lines;
        private int hour;
        private int strings;
        private final int[] cans = new int[MOST_WINDOWS];
        private final int[] washPairs = new int[MOST_WASHES];
        private final int[] washHours = new int[MOST_WASHES];
        /** Rising, so that the first string by number is the first here. */
        private final int[] pairs = new int[MOST_STRINGS];
        private final int[] knots = new int[MOST_STRINGS];

        Court() {
            clear();
        }

        void clear() {
            windows = 0;
            washes = 0;
            damp = 0;
            heard = HEARD_AT_FIRST;
            lines = 0;
            hour = 0;
            strings = 0;
            Arrays.fill(cans, CANS_AT_FIRST);
        }

        void takeFrom(Court other) {
            windows = other.windows;
            washes = other.washes;
            damp = other.damp;
            heard = other.heard;
            lines = other.lines;
            hour = other.hour;
            strings = other.strings;
            System.arraycopy(other.cans, 0, cans, 0, MOST_WINDOWS);
            System.arraycopy(other.washPairs, 0, washPairs, 0, MOST_WASHES);
            System.arraycopy(other.washHours, 0, washHours, 0, MOST_WASHES);
            System.arraycopy(other.pairs, 0, pairs, 0, MOST_STRINGS);
            System.arraycopy(other.knots, 0, knots, 0, MOST_STRINGS);
        }

        boolean hasWindow(int w) {
            return w >= 0 && w < windows;
        }

        int everyWindow() {
            return (1 << windows) - 1;
        }

        /** A long, since a row's numbers may lie beyond every int. */
        boolean hasPair(long number) {
            if (number < 0 || number >= PAIR_BOUND) {
                return false;
            }
            int pair = (int) number;
            return lesser(pair) < greater(pair) && greater(pair) < windows;
        }

        int lengthOf(int pair) {
            int steps = greater(pair) - lesser(pair);
            return steps * (windows - steps);
        }

        int bareLoss(int pair) {
            return lengthOf(pair) * (10 + damp) / 10;
        }

        int lossAt(int index) {
            return bareLoss(pairs[index]) + KNOT_LOSS * knots[index];
        }

        boolean slackAt(int pair, int anHour) {
            for (int i = 0; i < washes; i++) {
                boolean hangs = (washHours[i] >> anHour % HOURS_ROUND & 1) != 0;
                if (hangs && crossing(pair, washPairs[i])) {
                    return true;
                }
            }
            return false;
        }

        int indexOf(int pair) {
            for (int i = 0; i < strings; i++) {
                if (pairs[i] == pair) {
                    return i;
                }
            }
            return NONE;
        }

        int stringsAt(int w) {
            int found = 0;
            for (int i = 0; i < strings; i++) {
                if (lesser(pairs[i]) == w || greater(pairs[i]) == w) {
                    found++;
                }
            }
            return found;
        }

        int whyNot(int pair) {
            if (!hasPair(pair)) {
                return 1;
            }
            if (indexOf(pair) != NONE) {
                return 2;
            }
            int a = lesser(pair);
            int b = greater(pair);
            if (stringsAt(a) >= cans[a] || stringsAt(b) >= cans[b]) {
                return 3;
            }
            for (int i = 0; i < strings; i++) {
                if (crossing(pair, pairs[i])) {
                    return 4;
                }
            }
            return 0;
        }

        boolean mayBeTaut(int pair) {
            return whyNot(pair) == 0 && !slackAt(pair, hour);
        }

        /** The bound only guards the rows: strings that may be tied never reach it. */
        void addString(int pair, int knotted) {
            if (strings >= MOST_STRINGS) {
                return;
            }
            int place = strings;
            for (int i = strings; i > 0 && pairs[i - 1] > pair; i--) {
                pairs[i] = pairs[i - 1];
                knots[i] = knots[i - 1];
                place = i - 1;
            }
            pairs[place] = pair;
            knots[place] = knotted;
            strings++;
        }

        void removeString(int index) {
            if (index < 0 || index >= strings) {
                return;
            }
            for (int i = index + 1; i < strings; i++) {
                pairs[i - 1] = pairs[i];
                knots[i - 1] = knots[i];
            }
            strings--;
        }

        int slackStrings() {
            int slack = 0;
            for (int i = 0; i < strings; i++) {
                if (slackAt(pairs[i], hour)) {
                    slack++;
                }
            }
            return slack;
        }

        int lengthOfStrings() {
            int length = 0;
            for (int i = 0; i < strings; i++) {
                length += lengthOf(pairs[i]);
            }
            return length;
        }
    }

    /** The tape, read token by token, so that the fault it meets first is the first along the text. */
    private static final class Reader {
        private static final int WORD = 0;
        private static final int NUMBER = 1;
        private static final int SEMICOLON = 2;
        private static final int BLANK = 3;
        private static final int OTHER = 4;
        private static final int END = 5;

        private static final int NO_TOKEN = 1;
        private static final int MISPLACED = 2;
        private static final int OUT_OF_BOUNDS = 3;
        private static final int ONE_TOO_MANY = 4;
        private static final int MAY_NOT_BE_TIED = 5;

        private static final int MOST_DIGITS = 4;

        private final byte[] tape = new byte[TAPE_BYTES];
        private int taped;
        private int length;
        private int at;
        private int kind;
        private int start;
        private int value;
        private int fault;
        private int place = NONE;

        void putOnTape(int word) {
            for (int shift = 24; shift >= 0 && taped < TAPE_BYTES; shift -= 8) {
                tape[taped] = (byte) (word >>> shift);
                taped++;
            }
        }

        /** The tape is empty then, whether its text has a fault or not. */
        void readTape(Court told, int bytes) {
            told.clear();
            length = Math.min(bytes, taped);
            taped = 0;
            at = 0;
            fault = 0;
            place = NONE;
            nextToken();
            for (int i = 0; i < length && fault == 0 && kind != END; i++) {
                readLine(told);
                if (fault == 0) {
                    told.lines++;
                    nextToken();
                }
            }
        }

        private void readLine(Court told) {
            boolean isWindows = isWord("windows");
            if (isWindows && told.windows > 0) {
                refuse(ONE_TOO_MANY);
            } else if (isWindows) {
                readWindows(told);
            } else if (told.windows == 0) {
                refuse(MISPLACED);
            } else if (isWord("cans")) {
                readCans(told);
            } else if (isWord("wash")) {
                readWash(told);
            } else if (isWord("damp")) {
                told.damp = readNumber(0, MOST_DAMP);
                readSemicolon();
            } else if (isWord("heard")) {
                told.heard = readNumber(1, MOST_HEARD);
                readSemicolon();
            } else if (isWord("string")) {
                readString(told);
            } else {
                refuse(MISPLACED);
            }
        }

        private void readWindows(Court told) {
            told.windows = readNumber(FEWEST_WINDOWS, MOST_WINDOWS);
            readSemicolon();
        }

        private void readCans(Court told) {
            int w = readNumber(0, told.windows - 1);
            int cans = readNumber(0, MOST_CANS);
            readSemicolon();
            if (fault == 0) {
                told.cans[w] = cans;
            }
        }

        private void readWash(Court told) {
            if (told.washes >= MOST_WASHES) {
                refuse(ONE_TOO_MANY);
                return;
            }
            int a = readNumber(0, told.windows - 1);
            int b = readNumber(0, told.windows - 1);
            wantSteps(told, a, b, 2);
            int hours = readNumber(0, ALL_HOURS);
            readSemicolon();
            if (fault == 0) {
                told.washPairs[told.washes] = pairOf(a, b);
                told.washHours[told.washes] = hours;
                told.washes++;
            }
        }

        private void readString(Court told) {
            int a = readNumber(0, told.windows - 1);
            int b = readNumber(0, told.windows - 1);
            wantSteps(told, a, b, 1);
            nextToken();
            int knots = 0;
            if (isWord("knots")) {
                knots = readNumber(0, MOST_KNOTS);
                nextToken();
            }
            wantSemicolon();
            if (told.whyNot(pairOf(a, b)) != 0) {
                refuse(MAY_NOT_BE_TIED);
            }
            if (fault == 0) {
                told.addString(pairOf(a, b), knots);
            }
        }

        private int readNumber(int least, int most) {
            nextToken();
            if (kind != NUMBER) {
                refuse(MISPLACED);
            } else if (value < least || value > most) {
                refuse(OUT_OF_BOUNDS);
            }
            return fault == 0 ? value : 0;
        }

        private void readSemicolon() {
            nextToken();
            wantSemicolon();
        }

        private void wantSemicolon() {
            if (kind != SEMICOLON) {
                refuse(MISPLACED);
            }
        }

        /** It is the second window, read last, that lies too near the first. */
        private void wantSteps(Court told, int a, int b, int fewest) {
            int steps = Math.abs(a - b);
            if (Math.min(steps, told.windows - steps) < fewest) {
                refuse(OUT_OF_BOUNDS);
            }
        }

        /** Later faults are passed over: what is told is the first along the text. */
        private void refuse(int what) {
            if (fault == 0) {
                fault = what;
                place = start;
            }
        }

        private void nextToken() {
            if (fault != 0) {
                return;
            }
            for (int i = at; i < length && kindOf(tape[i]) == BLANK; i++) {
                at = i + 1;
            }
            start = at;
            kind = at < length ? kindOf(tape[at]) : END;
            if (kind == SEMICOLON) {
                at++;
            } else {
                for (int i = at; i < length && kindOf(tape[i]) == kind; i++) {
                    at = i + 1;
                }
            }
            if (kind == OTHER || kind == NUMBER && at - start > MOST_DIGITS) {
                refuse(NO_TOKEN);
            } else if (kind == NUMBER) {
                value = valueOfToken();
            }
        }

        private int valueOfToken() {
            int told = 0;
            for (int i = start; i < at; i++) {
                told = 10 * told + tape[i] - '0';
            }
            return told;
        }

        private static int kindOf(int sign) {
            if (sign >= 'a' && sign <= 'z') {
                return WORD;
            }
            if (sign >= '0' && sign <= '9') {
                return NUMBER;
            }
            if (sign == ';') {
                return SEMICOLON;
            }
            return sign == 10 || sign == 32 ? BLANK : OTHER;
        }

        private boolean isWord(String word) {
            if (kind != WORD || at - start != word.length()) {
                return false;
            }
            for (int i = 0; i < word.length(); i++) {
                if (tape[start + i] != word.charAt(i)) {
                    return false;
                }
            }
            return true;
        }
    }

    /** The strings of a court that aren't slack at an hour, and the ways over them. */
    private static final class Ways {
        /** A string's price is its loss and behind it 1, so the least sum has the fewest strings too. */
        private static final int STRINGS_BASE = 16;
        private static final int FAR = 1 << 24;

        private int windows;
        /** Of each window those that a string leads to, as bits. */
        private final int[] links = new int[MOST_WINDOWS];
        private final int[] prices = new int[MOST_WINDOWS * MOST_WINDOWS];
        /** From each window on to the one that was measured to. */
        private final int[] rest = new int[MOST_WINDOWS];
        private final int[] breaths = new int[MOST_WINDOWS];
        private int goal;
        private int otherFrom;
        private int otherTo;
        private int least;

        void takeStrings(Court court, int hour) {
            windows = court.windows;
            Arrays.fill(links, 0);
            for (int i = 0; i < court.strings; i++) {
                int pair = court.pairs[i];
                if (!court.slackAt(pair, hour)) {
                    join(lesser(pair), greater(pair));
                    setLoss(lesser(pair), greater(pair), court.lossAt(i));
                }
            }
        }

        void join(int a, int b) {
            links[a] |= 1 << b;
            links[b] |= 1 << a;
        }

        void sever(int a, int b) {
            links[a] &= ~(1 << b);
            links[b] &= ~(1 << a);
        }

        boolean areLinked(int a, int b) {
            return (links[a] >> b & 1) != 0;
        }

        void setLoss(int a, int b, int loss) {
            int price = STRINGS_BASE * loss + 1;
            prices[MOST_WINDOWS * a + b] = price;
            prices[MOST_WINDOWS * b + a] = price;
        }

        private int priceOf(int a, int b) {
            return prices[MOST_WINDOWS * a + b];
        }

        void measure(int target, int past) {
            Arrays.fill(rest, FAR);
            rest[target] = 0;
            int open = (1 << windows) - 1 & ~past;
            for (int i = 0; i < windows; i++) {
                int w = nearest(open);
                if (w == NONE) {
                    return;
                }
                open &= ~(1 << w);
                shorten(w, links[w] & open);
            }
        }

        private int nearest(int open) {
            int found = NONE;
            int nearestRest = FAR;
            for (int w = 0; w < windows; w++) {
                if ((open >> w & 1) != 0 && rest[w] < nearestRest) {
                    found = w;
                    nearestRest = rest[w];
                }
            }
            return found;
        }

        private void shorten(int w, int others) {
            for (int v = 0; v < windows; v++) {
                if ((others >> v & 1) != 0) {
                    rest[v] = Math.min(rest[v], rest[w] + priceOf(v, w));
                }
            }
        }

        int lossFrom(int w) {
            return rest[w] == FAR ? NONE : rest[w] / STRINGS_BASE;
        }

        int stringsFrom(int w) {
            return rest[w] == FAR ? NONE : rest[w] % STRINGS_BASE;
        }

        boolean isHeardFrom(int w, int heard) {
            return rest[w] != FAR && lossFrom(w) <= heard;
        }

        int heardCount(int from, int heard) {
            int found = 0;
            for (int w = 0; w < windows; w++) {
                if (w != from && isHeardFrom(w, heard)) {
                    found++;
                }
            }
            return found;
        }

        int heardLoss(int from, int heard) {
            int loss = 0;
            for (int w = 0; w < windows; w++) {
                if (w != from && isHeardFrom(w, heard)) {
                    loss += lossFrom(w);
                }
            }
            return loss;
        }

        int windowOnWay(int from, int k) {
            if (k > stringsFrom(from)) {
                return NONE;
            }
            int w = from;
            for (int i = 0; i < k && w != NONE; i++) {
                w = onward(w);
            }
            return w;
        }

        /** The least window that keeps to a best way, so that the whole way is the first by windows. */
        private int onward(int w) {
            for (int v = 0; v < windows; v++) {
                if (areLinked(w, v) && rest[v] + priceOf(w, v) == rest[w]) {
                    return v;
                }
            }
            return NONE;
        }

        int reachOf(int from) {
            int seen = 1 << from;
            int wave = seen;
            for (int i = 0; i < windows && wave != 0; i++) {
                wave = linksOf(wave) & ~seen;
                seen |= wave;
            }
            return seen;
        }

        private int linksOf(int set) {
            int linked = 0;
            for (int w = 0; w < windows; w++) {
                if ((set >> w & 1) != 0) {
                    linked |= links[w];
                }
            }
            return linked;
        }

        void spread(int from) {
            Arrays.fill(breaths, NONE);
            int seen = 1 << from;
            int wave = seen;
            for (int breath = 0; breath < windows && wave != 0; breath++) {
                for (int w = 0; w < windows; w++) {
                    if ((wave >> w & 1) != 0) {
                        breaths[w] = breath;
                    }
                }
                wave = linksOf(wave) & ~seen;
                seen |= wave;
            }
        }

        boolean spreadsAs(int from, Row told) {
            spread(from);
            for (int w = 0; w < windows; w++) {
                if (told.numberAt(w) != breaths[w]) {
                    return false;
                }
            }
            return true;
        }

        private boolean isStay(int a, int b) {
            if (!areLinked(a, b)) {
                return false;
            }
            sever(a, b);
            boolean apart = (reachOf(a) >> b & 1) == 0;
            join(a, b);
            return apart;
        }

        int stays() {
            int found = 0;
            for (int a = 0; a < windows; a++) {
                for (int b = a + 1; b < windows; b++) {
                    if (isStay(a, b)) {
                        found++;
                    }
                }
            }
            return found;
        }

        int stayAt(int k) {
            int found = 0;
            for (int a = 0; a < windows; a++) {
                for (int b = a + 1; b < windows; b++) {
                    if (isStay(a, b)) {
                        if (found == k) {
                            return pairOf(a, b);
                        }
                        found++;
                    }
                }
            }
            return NONE;
        }

        /** The least loss of two ways together that share no window, NONE without such ways. */
        int leastApart(int one, int other) {
            goal = greater(one);
            otherFrom = lesser(other);
            otherTo = greater(other);
            least = FAR;
            goFrom(lesser(one), 1 << lesser(one), 0, 0);
            return least == FAR ? NONE : least;
        }

        private void goFrom(int w, int used, int loss, int depth) {
            if (depth >= MOST_WINDOWS || loss >= least) {
                return;
            }
            if (w == goal) {
                measure(otherTo, used);
                if (rest[otherFrom] != FAR) {
                    least = Math.min(least, loss + lossFrom(otherFrom));
                }
                return;
            }
            int free = links[w] & ~used & ~(1 << otherFrom) & ~(1 << otherTo);
            for (int v = 0; v < windows; v++) {
                if ((free >> v & 1) != 0) {
                    goFrom(v, used | 1 << v, loss + priceOf(w, v) / STRINGS_BASE, depth + 1);
                }
            }
        }
    }

    /** The fewest pairs, two at most, that would make a way between two windows. */
    private static final class Gap {
        private int size;
        private int first;
        private int second;

        void seek(Court court, Ways ways, int a, int b) {
            size = NONE;
            first = NONE;
            second = NONE;
            int here = ways.reachOf(a);
            if ((here >> b & 1) != 0) {
                size = 0;
                return;
            }
            first = firstJoining(court, here, ways.reachOf(b));
            if (first != NONE) {
                size = 1;
                return;
            }
            seekTwo(court, ways, a, b);
        }

        private void seekTwo(Court court, Ways ways, int a, int b) {
            for (int u = 0; u < court.windows; u++) {
                for (int v = u + 1; v < court.windows; v++) {
                    if (!court.mayBeTaut(pairOf(u, v))) {
                        continue;
                    }
                    court.addString(pairOf(u, v), 0);
                    ways.join(u, v);
                    second = firstJoining(court, ways.reachOf(a), ways.reachOf(b));
                    ways.sever(u, v);
                    court.removeString(court.indexOf(pairOf(u, v)));
                    if (second != NONE) {
                        first = pairOf(u, v);
                        size = 2;
                        return;
                    }
                }
            }
        }

        private static int firstJoining(Court court, int here, int there) {
            for (int u = 0; u < court.windows; u++) {
                for (int v = u + 1; v < court.windows; v++) {
                    boolean joins = (here >> u & there >> v & 1) != 0 || (here >> v & there >> u & 1) != 0;
                    if (joins && court.mayBeTaut(pairOf(u, v))) {
                        return pairOf(u, v);
                    }
                }
            }
            return NONE;
        }
    }

    /** Which places of a row of pairs can be strung together. */
    private static final class Choice {
        private final int[] lengths = new int[MOST_TOGETHER];
        /** Of each place those that it crosses, as bits. */
        private final int[] crossed = new int[MOST_TOGETHER];
        private int places;
        private int most;
        private int leastLength;
        private int leastPlaces;

        void choose(Court court, Row row) {
            places = Math.min(row.size, MOST_TOGETHER);
            for (int i = 0; i < places; i++) {
                lengths[i] = court.lengthOf((int) row.numberAt(i));
                crossed[i] = 0;
                for (int j = 0; j < places; j++) {
                    if (crossing((int) row.numberAt(i), (int) row.numberAt(j))) {
                        crossed[i] |= 1 << j;
                    }
                }
            }
            most = NONE;
            decide(0, 0, 0, 0);
        }

        private void decide(int place, int taken, int length, int bits) {
            if (taken + places - place < most) {
                return;
            }
            if (place >= places) {
                compare(taken, length, bits);
                return;
            }
            if ((crossed[place] & bits) == 0) {
                decide(place + 1, taken + 1, length + lengths[place], bits | 1 << place);
            }
            decide(place + 1, taken, length, bits);
        }

        private void compare(int taken, int length, int bits) {
            boolean like = taken == most && length == leastLength;
            if (taken > most || taken == most && length < leastLength || like && bits < leastPlaces) {
                most = taken;
                leastLength = length;
                leastPlaces = bits;
            }
        }
    }

    /** Calls one behind another: which strings are taken at which breath. */
    private static final class Switchboard {
        /** Each string of a call before it keeps a call from one beginning at most. */
        private static final int MOST_BREATHS = (MOST_NUMBERS + 1) * MOST_WINDOWS;

        private final int[] taken = new int[MOST_BREATHS];
        private final int[] begins = new int[MOST_NUMBERS];
        /** The strings of one call, each as a bit, in the order in which it takes them. */
        private final int[] route = new int[MOST_WINDOWS];
        private int placed;
        private int ended;
        private int waited;

        void placeCalls(Court court, Ways ways, Row row) {
            Arrays.fill(taken, 0);
            Arrays.fill(begins, NONE);
            placed = 0;
            ended = 0;
            waited = 0;
            for (int i = 0; i < row.size; i++) {
                int pair = (int) row.numberAt(i);
                ways.measure(greater(pair), 0);
                if (ways.isHeardFrom(lesser(pair), court.heard)) {
                    begins[i] = placeCall(layRoute(court, ways, lesser(pair)));
                }
            }
        }

        int beginOf(int place) {
            return place >= 0 && place < MOST_NUMBERS ? begins[place] : NONE;
        }

        private int layRoute(Court court, Ways ways, int from) {
            int strings = Math.min(ways.stringsFrom(from), MOST_WINDOWS);
            for (int k = 0; k < strings; k++) {
                int a = ways.windowOnWay(from, k);
                int b = ways.windowOnWay(from, k + 1);
                route[k] = 1 << court.indexOf(pairOf(a, b));
            }
            return strings;
        }

        private int placeCall(int strings) {
            for (int begin = 0; begin + strings <= MOST_BREATHS; begin++) {
                if (isFree(begin, strings)) {
                    for (int k = 0; k < strings; k++) {
                        taken[begin + k] |= route[k];
                    }
                    placed++;
                    waited += begin;
                    ended = Math.max(ended, begin + strings);
                    return begin;
                }
            }
            return NONE;
        }

        private boolean isFree(int begin, int strings) {
            for (int k = 0; k < strings; k++) {
                if ((taken[begin + k] & route[k]) != 0) {
                    return false;
                }
            }
            return true;
        }
    }

    /** A row of numbers of one sort. */
    private static final class Row {
        private final long[] values = new long[MOST_NUMBERS];
        private int sort;
        /** NONE as long as the row is missing. */
        private int size = NONE;

        void begin(int newSort, int newSize) {
            sort = newSort;
            size = newSize;
            Arrays.fill(values, 0L);
        }

        long numberAt(int i) {
            return i >= 0 && i < size ? values[i] : 0L;
        }

        long put(int i, long v) {
            if (i < 0 || i >= size) {
                return NO_NUMBER;
            }
            values[i] = trimmed(v);
            return values[i];
        }

        private long trimmed(long v) {
            switch (sort) {
                case 0:
                    return (byte) v;
                case 1:
                    return (short) v;
                case 2:
                    return (int) v;
                default:
                    return v;
            }
        }
    }
}
