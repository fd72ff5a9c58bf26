import java.util.ArrayList;
import java.util.Arrays;
import java.util.Comparator;
import java.util.HashSet;
import java.util.List;
import java.util.Map;
import java.util.Set;
import java.util.TreeMap;
import java.util.TreeSet;

/**
 * The document once more, by trying everything out: all ways, all sets, all nets. It shares no code
 * and as little thought as possible with TinCans, so that a slip in one shows beside the other.
 */
final class Model {
    private static final class Wash {
        int a;
        int b;
        int hours;
    }

    private static final class State {
        int windows;
        int damp;
        int heard = 60;
        int lines;
        int hour;
        TreeMap<Integer, Integer> cans = new TreeMap<>();
        List<Wash> washes = new ArrayList<>();
        TreeMap<Integer, Integer> strings = new TreeMap<>();

        State twin() {
            State s = new State();
            s.windows = windows;
            s.damp = damp;
            s.heard = heard;
            s.lines = lines;
            s.hour = hour;
            s.cans.putAll(cans);
            s.washes.addAll(washes);
            s.strings.putAll(strings);
            return s;
        }

        boolean isPair(long p) {
            for (int a = 0; a < windows; a++) {
                for (int b = a + 1; b < windows; b++) {
                    if (20 * a + b == p) {
                        return true;
                    }
                }
            }
            return false;
        }

        List<Integer> pairs() {
            List<Integer> all = new ArrayList<>();
            for (int p = 0; p < 400; p++) {
                if (isPair(p)) {
                    all.add(p);
                }
            }
            return all;
        }

        /** Walks round the court from a to b and looks whom it meets. */
        boolean crosses(int a, int b, int c, int d) {
            if (a == c || a == d || b == c || b == d) {
                return false;
            }
            int met = 0;
            for (int w = (a + 1) % windows; w != b; w = (w + 1) % windows) {
                if (w == c || w == d) {
                    met++;
                }
            }
            return met == 1;
        }

        boolean crosses(int p, int q) {
            return crosses(p / 20, p % 20, q / 20, q % 20);
        }

        int length(int p) {
            int s = 0;
            for (int w = p / 20; w != p % 20; w = (w + 1) % windows) {
                s++;
            }
            return s * (windows - s);
        }

        int loss(int p, int knots) {
            return (int) Math.floor(length(p) * (10 + damp) / 10.0 + 1e-9) + 3 * knots;
        }

        boolean slack(int p, int atHour) {
            for (Wash w : washes) {
                if ((w.hours & (1 << (atHour % 12))) != 0 && crosses(p / 20, p % 20, w.a, w.b)) {
                    return true;
                }
            }
            return false;
        }

        int used(int w) {
            int n = 0;
            for (int p : strings.keySet()) {
                if (p / 20 == w || p % 20 == w) {
                    n++;
                }
            }
            return n;
        }

        int may(long p) {
            if (!isPair(p)) {
                return 1;
            }
            int pair = (int) p;
            if (strings.containsKey(pair)) {
                return 2;
            }
            for (int w : new int[] {pair / 20, pair % 20}) {
                if (used(w) + 1 > cans.getOrDefault(w, 3)) {
                    return 3;
                }
            }
            for (int q : strings.keySet()) {
                if (crosses(pair, q)) {
                    return 4;
                }
            }
            return 0;
        }

        Map<Integer, Integer> taut(int atHour) {
            Map<Integer, Integer> out = new TreeMap<>();
            for (Map.Entry<Integer, Integer> e : strings.entrySet()) {
                if (!slack(e.getKey(), atHour)) {
                    out.put(e.getKey(), loss(e.getKey(), e.getValue()));
                }
            }
            return out;
        }

        List<Integer> candidates() {
            List<Integer> out = new ArrayList<>();
            for (int p : pairs()) {
                if (may(p) == 0 && !slack(p, hour)) {
                    out.add(p);
                }
            }
            return out;
        }
    }

    private static final class Way {
        List<Integer> windows;
        int loss;
    }

    private static final Comparator<Way> BEST = (x, y) -> {
        if (x.loss != y.loss) {
            return Integer.compare(x.loss, y.loss);
        }
        if (x.windows.size() != y.windows.size()) {
            return Integer.compare(x.windows.size(), y.windows.size());
        }
        for (int i = 0; i < x.windows.size(); i++) {
            int c = Integer.compare(x.windows.get(i), y.windows.get(i));
            if (c != 0) {
                return c;
            }
        }
        return 0;
    };

    private State s = new State();
    private final List<Integer> tape = new ArrayList<>();
    private int fault;
    private int place = -1;
    private final long[][] rows = new long[4][];
    private final int[] sorts = new int[4];
    private final State[] images = new State[2];

    // ---- the court

    int feed(int a, int b, int c, int d, int e) {
        if (tape.size() + 20 > 900) {
            return -5;
        }
        for (int word : new int[] {a, b, c, d, e}) {
            tape.add(word >> 24 & 255);
            tape.add(word >> 16 & 255);
            tape.add(word >> 8 & 255);
            tape.add(word & 255);
        }
        return tape.size();
    }

    int court(int n) {
        if (n < 0 || n > tape.size()) {
            return -3;
        }
        StringBuilder text = new StringBuilder();
        for (int i = 0; i < n; i++) {
            text.append((char) (int) tape.get(i));
        }
        tape.clear();
        ModelText read = new ModelText(text.toString());
        fault = 0;
        place = -1;
        State told = new State();
        int[] wrong = tell(read, told);
        if (wrong != null) {
            fault = wrong[0];
            place = wrong[1];
            return -30 - fault;
        }
        s = told;
        return s.lines;
    }

    /** null, or the kind of the fault and its place. */
    private static int[] tell(ModelText text, State told) {
        int i = 0;
        while (text.tokens.get(i).kind != 'e') {
            ModelText.Token head = text.tokens.get(i);
            if (head.kind == '?') {
                return new int[] {1, head.place};
            }
            String shape;
            switch (head.kind == 'w' ? head.word : "") {
                case "windows":
                case "damp":
                case "heard":
                    shape = "n;";
                    break;
                case "cans":
                    shape = "nn;";
                    break;
                case "wash":
                    shape = "nnn;";
                    break;
                case "string":
                    shape = "nn;";
                    break;
                default:
                    return new int[] {2, head.place};
            }
            if (!head.word.equals("windows") && told.windows == 0) {
                return new int[] {2, head.place};
            }
            if (head.word.equals("windows") && told.windows != 0) {
                return new int[] {4, head.place};
            }
            if (head.word.equals("wash") && told.washes.size() == 8) {
                return new int[] {4, head.place};
            }
            int[] v = new int[4];
            int k = 0;
            i++;
            for (int j = 0; j < shape.length(); j++) {
                ModelText.Token t = text.tokens.get(i);
                if (t.kind == '?') {
                    return new int[] {1, t.place};
                }
                if (head.word.equals("string") && j == 2 && t.kind == 'w' && t.word.equals("knots")) {
                    shape = "nnwn;";
                }
                if (t.kind != shape.charAt(j)) {
                    return new int[] {2, t.place};
                }
                if (t.kind == 'n') {
                    v[k] = t.number;
                    if (!within(head.word, k, v, told)) {
                        return new int[] {3, t.place};
                    }
                    k++;
                }
                i++;
            }
            int stop = text.tokens.get(i - 1).place;
            switch (head.word) {
                case "windows":
                    told.windows = v[0];
                    break;
                case "cans":
                    told.cans.put(v[0], v[1]);
                    break;
                case "damp":
                    told.damp = v[0];
                    break;
                case "heard":
                    told.heard = v[0];
                    break;
                case "wash":
                    Wash w = new Wash();
                    w.a = v[0];
                    w.b = v[1];
                    w.hours = v[2];
                    told.washes.add(w);
                    break;
                default:
                    int p = 20 * Math.min(v[0], v[1]) + Math.max(v[0], v[1]);
                    if (told.may(p) != 0) {
                        return new int[] {5, stop};
                    }
                    told.strings.put(p, v[2]);
                    break;
            }
            told.lines++;
        }
        return null;
    }

    private static boolean within(String word, int k, int[] v, State told) {
        int n = v[k];
        switch (word) {
            case "windows":
                return n >= 3 && n <= 12;
            case "damp":
                return n <= 20;
            case "heard":
                return n >= 1 && n <= 999;
            case "cans":
                return k == 0 ? n < told.windows : n <= 11;
            case "wash":
                if (k == 2) {
                    return n <= 4095;
                }
                if (k == 1) {
                    int round = Math.floorMod(n - v[0], told.windows);
                    return n < told.windows && round >= 2 && told.windows - round >= 2;
                }
                return n < told.windows;
            default:
                if (k == 2) {
                    return n <= 9;
                }
                return n < told.windows && (k == 0 || n != v[0]);
        }
    }

    int fault(int what) {
        return what == 0 ? fault : what == 1 ? place : -1;
    }

    int window(int w, int what) {
        if (!isWindow(w) || what < 0 || what > 3) {
            return -2;
        }
        int tautHere = 0;
        int bits = 0;
        for (int p : s.taut(s.hour).keySet()) {
            if (p / 20 == w || p % 20 == w) {
                tautHere++;
                bits += 1 << (p / 20 + p % 20 - w);
            }
        }
        return new int[] {s.cans.getOrDefault(w, 3), s.used(w), tautHere, bits}[what];
    }

    int cross(int one, int other) {
        if (!s.isPair(one) || !s.isPair(other)) {
            return -2;
        }
        return s.crosses(one, other) ? 1 : 0;
    }

    int pair(int pair, int what) {
        if (!s.isPair(pair) || what < 0 || what > 3) {
            return -2;
        }
        Integer knots = s.strings.get(pair);
        switch (what) {
            case 0:
                return s.length(pair);
            case 1:
                return knots == null ? -1 : knots;
            case 2:
                return s.loss(pair, knots == null ? 0 : knots);
            default:
                return s.slack(pair, s.hour) ? 1 : 0;
        }
    }

    // ---- strings

    int may(int pair) {
        return s.may(pair);
    }

    int tie(int pair, int knots) {
        if (s.may(pair) != 0) {
            return -10 - s.may(pair);
        }
        if (knots < 0 || knots > 9) {
            return -3;
        }
        s.strings.put(pair, knots);
        return s.strings.size();
    }

    int cut(int pair) {
        return s.strings.remove(pair) == null ? -2 : s.strings.size();
    }

    int knot(int pair) {
        if (!s.strings.containsKey(pair)) {
            return -2;
        }
        if (s.strings.get(pair) == 9) {
            return -4;
        }
        return s.strings.merge(pair, 1, Integer::sum);
    }

    int tieAll(int row) {
        if (rowCode(row) != 0) {
            return rowCode(row);
        }
        int before = s.strings.size();
        for (long v : rows[row]) {
            if (s.may(v) == 0) {
                s.strings.put((int) v, 0);
            }
        }
        return s.strings.size() - before;
    }

    int pass(int hours) {
        if (hours < 0 || hours > 99) {
            return -3;
        }
        if (s.hour + hours > 9999) {
            return -5;
        }
        return s.hour += hours;
    }

    int damp(int n) {
        if (n < 0 || n > 20) {
            return -3;
        }
        int was = s.damp;
        s.damp = n;
        return was;
    }

    private int x;

    private int draw() {
        x = (int) ((1103515245L * x + 12345L) & 0xffffffffL);
        return (int) ((x & 0xffffffffL) >> 16);
    }

    int gust(int seed, int times) {
        if (s.windows == 0) {
            return -5;
        }
        if (times < 1 || times > 60) {
            return -3;
        }
        x = seed;
        for (int i = 0; i < times; i++) {
            int a = draw() % s.windows;
            int b = draw() % s.windows;
            if (a == b) {
                continue;
            }
            int p = a < b ? 20 * a + b : 20 * b + a;
            if (s.strings.containsKey(p)) {
                s.strings.remove(p);
            } else if (s.may(p) == 0) {
                s.strings.put(p, draw() % 3);
            }
        }
        return s.strings.size();
    }

    // ---- ways

    private List<Way> allWays(Map<Integer, Integer> losses, int a, int b, int past) {
        List<Way> out = new ArrayList<>();
        List<Integer> at = new ArrayList<>();
        at.add(a);
        walk(losses, b, past, at, 0, out);
        out.sort(BEST);
        return out;
    }

    private void walk(Map<Integer, Integer> losses, int b, int past, List<Integer> at, int loss, List<Way> out) {
        int here = at.get(at.size() - 1);
        if (here == b) {
            Way w = new Way();
            w.windows = new ArrayList<>(at);
            w.loss = loss;
            out.add(w);
            return;
        }
        for (Map.Entry<Integer, Integer> e : losses.entrySet()) {
            int p = e.getKey();
            if (p / 20 != here && p % 20 != here) {
                continue;
            }
            int next = p / 20 == here ? p % 20 : p / 20;
            if (at.contains(next) || (past >> next & 1) == 1) {
                continue;
            }
            at.add(next);
            walk(losses, b, past, at, loss + e.getValue(), out);
            at.remove(at.size() - 1);
        }
    }

    private Way bestWay(Map<Integer, Integer> losses, int a, int b, int past) {
        List<Way> all = allWays(losses, a, b, past);
        return all.isEmpty() ? null : all.get(0);
    }

    private Way heardWay(Map<Integer, Integer> losses, int a, int b, int past) {
        Way w = bestWay(losses, a, b, past);
        return w == null || w.loss > s.heard ? null : w;
    }

    private Map<Integer, Integer> taut() {
        return s.taut(s.hour);
    }

    private boolean isWindow(int w) {
        return w >= 0 && w < s.windows;
    }

    private boolean twoWindows(int a, int b) {
        return isWindow(a) && isWindow(b) && a != b;
    }

    int best(int a, int b, int past, int what) {
        if (!twoWindows(a, b) || what < 0 || what > 1 && what < 10 || what > 21) {
            return -2;
        }
        for (int bit = 0; bit < 32; bit++) {
            if ((past >>> bit & 1) == 1 && (bit >= s.windows || bit == a || bit == b)) {
                return -3;
            }
        }
        Way w = bestWay(taut(), a, b, past);
        if (w == null) {
            return -1;
        }
        if (what == 0) {
            return w.loss;
        }
        if (what == 1) {
            return w.windows.size() - 1;
        }
        return what - 10 < w.windows.size() ? w.windows.get(what - 10) : -1;
    }

    int hears(int a) {
        if (!isWindow(a)) {
            return -2;
        }
        int bits = 0;
        for (int b = 0; b < s.windows; b++) {
            if (b != a && heardWay(taut(), a, b, 0) != null) {
                bits += 1 << b;
            }
        }
        return bits;
    }

    int overhears(int a, int b) {
        if (!twoWindows(a, b)) {
            return -2;
        }
        Way w = bestWay(taut(), a, b, 0);
        int bits = 0;
        if (w != null) {
            for (int v : w.windows) {
                bits += v == a || v == b ? 0 : 1 << v;
            }
        }
        return bits;
    }

    int needs(int a, int b) {
        if (!twoWindows(a, b)) {
            return -2;
        }
        if (heardWay(taut(), a, b, 0) == null) {
            return -1;
        }
        for (int w = 0; w < s.windows; w++) {
            if (w != a && w != b && heardWay(taut(), a, b, 1 << w) == null) {
                return w;
            }
        }
        return -1;
    }

    int openHours(int pair) {
        if (!s.isPair(pair)) {
            return -2;
        }
        int bits = 0;
        for (int h = 0; h < 12; h++) {
            if (heardWay(s.taut(h), pair / 20, pair % 20, 0) != null) {
                bits += 1 << h;
            }
        }
        return bits;
    }

    /** Each window's part, told by the least window of it: parts are merged string by string. */
    private int[] partsOf(Set<Integer> pairs) {
        int[] of = new int[s.windows];
        for (int w = 0; w < s.windows; w++) {
            of[w] = w;
        }
        for (int p : pairs) {
            int keep = Math.min(of[p / 20], of[p % 20]);
            int gone = Math.max(of[p / 20], of[p % 20]);
            for (int w = 0; w < s.windows; w++) {
                of[w] = of[w] == gone ? keep : of[w];
            }
        }
        return of;
    }

    private int partCount(Set<Integer> pairs) {
        return (int) Arrays.stream(partsOf(pairs)).distinct().count();
    }

    int part(int w) {
        if (!isWindow(w)) {
            return -2;
        }
        int[] of = partsOf(taut().keySet());
        int bits = 0;
        for (int v = 0; v < s.windows; v++) {
            bits += of[v] == of[w] ? 1 << v : 0;
        }
        return bits;
    }

    int parts() {
        return partCount(taut().keySet());
    }

    private List<Integer> staysOf(Set<Integer> pairs) {
        List<Integer> out = new ArrayList<>();
        for (int p : new TreeSet<>(pairs)) {
            Set<Integer> without = new HashSet<>(pairs);
            without.remove(p);
            if (partCount(without) > partCount(pairs)) {
                out.add(p);
            }
        }
        return out;
    }

    int stay(int k) {
        List<Integer> stays = staysOf(taut().keySet());
        if (k == -1) {
            return stays.size();
        }
        return k >= 0 && k < stays.size() ? stays.get(k) : -1;
    }

    int brace() {
        int found = -1;
        long foundRank = Long.MAX_VALUE;
        for (int p : s.candidates()) {
            Set<Integer> with = new HashSet<>(taut().keySet());
            with.add(p);
            long rank = staysOf(with).size() * 1000000L + s.length(p) * 1000L + p;
            if (rank < foundRank) {
                foundRank = rank;
                found = p;
            }
        }
        return found;
    }

    int both(int one, int other) {
        if (!s.isPair(one) || !s.isPair(other)) {
            return -2;
        }
        Set<Integer> ends = new HashSet<>(Arrays.asList(one / 20, one % 20, other / 20, other % 20));
        if (ends.size() < 4) {
            return -3;
        }
        int least = -1;
        for (Way w : allWays(taut(), one / 20, one % 20, 0)) {
            for (Way v : allWays(taut(), other / 20, other % 20, 0)) {
                boolean apart = true;
                for (int window : w.windows) {
                    apart &= !v.windows.contains(window);
                }
                if (apart && (least == -1 || w.loss + v.loss < least)) {
                    least = w.loss + v.loss;
                }
            }
        }
        return least;
    }

    int renewed(int pair, int what) {
        if (!s.isPair(pair) || what < 0 || what > 1) {
            return -2;
        }
        Way w = bestWay(taut(), pair / 20, pair % 20, 0);
        if (w == null) {
            return -5;
        }
        int most = 0;
        int found = -1;
        for (int p : taut().keySet()) {
            Map<Integer, Integer> losses = new TreeMap<>(taut());
            losses.put(p, s.loss(p, 0));
            int less = w.loss - bestWay(losses, pair / 20, pair % 20, 0).loss;
            if (less > most) {
                most = less;
                found = p;
            }
        }
        return what == 0 ? most : found;
    }

    int exchange(int what) {
        if (what < 0 || what > 2) {
            return -2;
        }
        int[] found = {-1, -1, -1};
        for (int w = 0; w < s.windows; w++) {
            int others = 0;
            int loss = 0;
            for (int v = 0; v < s.windows; v++) {
                Way way = v == w ? null : heardWay(taut(), w, v, 0);
                if (way != null) {
                    others++;
                    loss += way.loss;
                }
            }
            if (others > found[1] || others == found[1] && loss < found[2]) {
                found = new int[] {w, others, loss};
            }
        }
        return found[what];
    }

    int missing(int a, int b, int what) {
        if (!twoWindows(a, b) || what < 0 || what > 2) {
            return -2;
        }
        int[] found = missingFor(a, b);
        return found[what];
    }

    private boolean joined(int a, int b) {
        int[] of = partsOf(taut().keySet());
        return of[a] == of[b];
    }

    private int[] missingFor(int a, int b) {
        if (joined(a, b)) {
            return new int[] {0, -1, -1};
        }
        for (int p : s.candidates()) {
            s.strings.put(p, 0);
            boolean is = joined(a, b);
            s.strings.remove(p);
            if (is) {
                return new int[] {1, p, -1};
            }
        }
        for (int p : s.candidates()) {
            s.strings.put(p, 0);
            for (int q : s.candidates()) {
                s.strings.put(q, 0);
                boolean is = joined(a, b);
                s.strings.remove(q);
                if (is) {
                    s.strings.remove(p);
                    return new int[] {2, p, q};
                }
            }
            s.strings.remove(p);
        }
        return new int[] {-1, -1, -1};
    }

    // ---- nets

    private int pairsCode(int row) {
        if (rowCode(row) != 0) {
            return rowCode(row);
        }
        for (long v : rows[row]) {
            if (!s.isPair(v)) {
                return -3;
            }
        }
        return 0;
    }

    int together(int row, int what) {
        if (row < 0 || row > 3 || what < 0 || what > 2) {
            return -2;
        }
        if (pairsCode(row) != 0) {
            return pairsCode(row);
        }
        int n = rows[row].length;
        if (n > 12) {
            return -4;
        }
        int[] found = {-1, 0, 0};
        for (int set = 0; set < 1 << n; set++) {
            int size = Integer.bitCount(set);
            if (size < found[0]) {
                continue;
            }
            int length = 0;
            boolean fine = true;
            for (int i = 0; i < n; i++) {
                if ((set >> i & 1) == 0) {
                    continue;
                }
                length += s.length((int) rows[row][i]);
                for (int j = 0; j < i; j++) {
                    fine &= (set >> j & 1) == 0 || !s.crosses((int) rows[row][i], (int) rows[row][j]);
                }
            }
            if (fine && (size > found[0] || length < found[1])) {
                found = new int[] {size, length, set};
            }
        }
        return found[what];
    }

    int shut(int row, int place) {
        if (rowCode(row) != 0) {
            return rowCode(row);
        }
        if (place < 0 || place >= rows[row].length) {
            return -7;
        }
        if (pairsCode(row) != 0) {
            return pairsCode(row);
        }
        int n = 0;
        for (long v : rows[row]) {
            n += s.crosses((int) v, (int) rows[row][place]) ? 1 : 0;
        }
        return n;
    }

    int web(int what) {
        if (what < 0 || what > 1) {
            return -2;
        }
        if (s.windows == 0) {
            return -5;
        }
        int[] found = s.windows <= 5 ? websByTrial() : websByIntervals();
        return found[what];
    }

    private int[] websByTrial() {
        List<Integer> usable = new ArrayList<>();
        for (int p : s.pairs()) {
            if (!s.slack(p, s.hour)) {
                usable.add(p);
            }
        }
        int[] found = {-1, 0};
        for (int set = 0; set < 1 << usable.size(); set++) {
            if (Integer.bitCount(set) != s.windows - 1) {
                continue;
            }
            Set<Integer> net = new HashSet<>();
            int length = 0;
            for (int i = 0; i < usable.size(); i++) {
                if ((set >> i & 1) == 1) {
                    net.add(usable.get(i));
                    length += s.length(usable.get(i));
                }
            }
            boolean fine = partCount(net) == 1;
            for (int p : net) {
                for (int q : net) {
                    fine &= !s.crosses(p, q);
                }
            }
            if (fine && (found[0] == -1 || length < found[0])) {
                found = new int[] {length, 1};
            } else if (fine && length == found[0]) {
                found[1]++;
            }
        }
        return found;
    }

    /** A net over windows i to j: that of i and its last neighbour k, then one over k to j. */
    private int[] websByIntervals() {
        int n = s.windows;
        int far = 1 << 20;
        int[][] net = new int[n][n];
        int[][] nets = new int[n][n];
        int[][] tied = new int[n][n];
        int[][] tiedNets = new int[n][n];
        for (int i = 0; i < n; i++) {
            nets[i][i] = 1;
        }
        for (int span = 1; span < n; span++) {
            for (int i = 0; i + span < n; i++) {
                int j = i + span;
                int[] found = {far, 0};
                if (!s.slack(20 * i + j, s.hour)) {
                    int own = s.length(20 * i + j);
                    for (int m = i; m < j; m++) {
                        gather(found, own + net[i][m] + net[m + 1][j], nets[i][m] * nets[m + 1][j]);
                    }
                }
                tied[i][j] = found[0];
                tiedNets[i][j] = found[1];
                found = new int[] {far, 0};
                for (int k = i + 1; k <= j; k++) {
                    gather(found, tied[i][k] + net[k][j], tiedNets[i][k] * nets[k][j]);
                }
                net[i][j] = found[0];
                nets[i][j] = found[1];
            }
        }
        return nets[0][n - 1] == 0 ? new int[] {-1, 0} : new int[] {net[0][n - 1], nets[0][n - 1]};
    }

    private static void gather(int[] found, int length, int ways) {
        if (ways > 0 && length < found[0]) {
            found[0] = length;
            found[1] = 0;
        }
        if (length == found[0]) {
            found[1] += ways;
        }
    }

    int more() {
        State t = s.twin();
        int n = 0;
        boolean again = true;
        while (again) {
            again = false;
            for (int p : t.pairs()) {
                if (t.may(p) == 0) {
                    t.strings.put(p, 0);
                    n++;
                    again = true;
                    break;
                }
            }
        }
        return n;
    }

    // ---- calls, echoes

    int calls(int row, int what) {
        if (row < 0 || row > 3 || what < 0 || what > 2 && what < 10 || what > 49) {
            return -2;
        }
        if (pairsCode(row) != 0) {
            return pairsCode(row);
        }
        Set<String> taken = new HashSet<>();
        int[] begins = new int[40];
        Arrays.fill(begins, -1);
        int made = 0;
        int end = 0;
        int waited = 0;
        for (int i = 0; i < rows[row].length; i++) {
            int p = (int) rows[row][i];
            Way w = heardWay(taut(), p / 20, p % 20, 0);
            if (w == null) {
                continue;
            }
            int begin = 0;
            while (rows[row].length > 0) {
                Set<String> takes = new HashSet<>();
                for (int k = 0; k + 1 < w.windows.size(); k++) {
                    int u = w.windows.get(k);
                    int v = w.windows.get(k + 1);
                    takes.add(Math.min(u, v) + "-" + Math.max(u, v) + "@" + (begin + k));
                }
                Set<String> clash = new HashSet<>(takes);
                clash.retainAll(taken);
                if (clash.isEmpty()) {
                    taken.addAll(takes);
                    break;
                }
                begin++;
            }
            begins[i] = begin;
            made++;
            waited += begin;
            end = Math.max(end, begin + w.windows.size() - 1);
        }
        return what >= 10 ? begins[what - 10] : new int[] {made, end, waited}[what];
    }

    private int[] echoes(Set<Integer> pairs, int from) {
        Map<Integer, Integer> ones = new TreeMap<>();
        for (int p : pairs) {
            ones.put(p, 1);
        }
        int[] out = new int[s.windows];
        for (int w = 0; w < s.windows; w++) {
            Way way = bestWay(ones, from, w, 0);
            out[w] = way == null ? -1 : way.loss;
        }
        return out;
    }

    /** Echoes as they would be with one string less, one pair more (-1: none). */
    int[] echoesIf(int from, int without, int with) {
        Set<Integer> pairs = new HashSet<>(taut().keySet());
        pairs.remove(without);
        if (s.isPair(with) && !s.slack(with, s.hour)) {
            pairs.add(with);
        }
        return echoes(pairs, from);
    }

    int echo(int from, int to) {
        if (!isWindow(from) || !isWindow(to)) {
            return -2;
        }
        return echoes(taut().keySet(), from)[to];
    }

    int explained(int from, int row, int what) {
        if (!isWindow(from) || row < 0 || row > 3 || what < 0 || what > 1) {
            return -2;
        }
        if (rows[row] == null) {
            return -6;
        }
        if (rows[row].length != s.windows) {
            return -7;
        }
        if (asTold(taut().keySet(), from, row)) {
            return what == 0 ? 0 : -1;
        }
        for (int p : taut().keySet()) {
            Set<Integer> pairs = new HashSet<>(taut().keySet());
            pairs.remove(p);
            if (asTold(pairs, from, row)) {
                return what == 0 ? 1 : p;
            }
        }
        for (int p : s.candidates()) {
            Set<Integer> pairs = new HashSet<>(taut().keySet());
            pairs.add(p);
            if (asTold(pairs, from, row)) {
                return what == 0 ? 2 : p;
            }
        }
        return what == 0 ? 3 : -1;
    }

    private boolean asTold(Set<Integer> pairs, int from, int row) {
        int[] heardAt = echoes(pairs, from);
        for (int w = 0; w < s.windows; w++) {
            if (heardAt[w] != rows[row][w]) {
                return false;
            }
        }
        return true;
    }

    // ---- rows of numbers, images

    private int rowCode(int row) {
        return row < 0 || row > 3 ? -2 : rows[row] == null ? -6 : 0;
    }

    int numbers(int row, int sort, int n) {
        if (row < 0 || row > 3 || sort < 0 || sort > 3) {
            return -2;
        }
        if (n < 0 || n > 40) {
            return -3;
        }
        rows[row] = new long[n];
        sorts[row] = sort;
        return 0;
    }

    private long cutTo(int sort, long v) {
        int away = 64 - (8 << sort);
        return v << away >> away;
    }

    long write(int row, int i, long v) {
        if (rowCode(row) != 0) {
            return rowCode(row);
        }
        if (i < 0 || i >= rows[row].length) {
            return -7;
        }
        return rows[row][i] = cutTo(sorts[row], v);
    }

    int copy(int row) {
        if (rowCode(row) != 0) {
            return rowCode(row);
        }
        int n = 0;
        for (int p : s.strings.keySet()) {
            if (n < rows[row].length) {
                rows[row][n] = cutTo(sorts[row], p);
                n++;
            }
        }
        return n;
    }

    int image(int i) {
        if (i < 0 || i > 1) {
            return -2;
        }
        images[i] = s.twin();
        return 0;
    }

    int restore(int i) {
        if (i < 0 || i > 1) {
            return -2;
        }
        if (images[i] == null) {
            return -5;
        }
        s = images[i].twin();
        return 0;
    }

    int count(int what) {
        int slack = s.strings.size() - taut().size();
        int length = 0;
        for (int p : s.strings.keySet()) {
            length += s.length(p);
        }
        int[] all = {s.windows, s.strings.size(), s.hour, s.damp, s.heard, s.washes.size(), slack, length,
            tape.size(), s.lines};
        return what >= 0 && what < all.length ? all[what] : -1;
    }
}
