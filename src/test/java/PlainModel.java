import java.util.ArrayList;
import java.util.Arrays;
import java.util.List;

/**
 * The document once more, in another way: searches by brute force, rows as real arrays whose
 * machine faults are caught. ModelTest compares the class with it.
 */
final class PlainModel {
    private static final int UNKNOWN = -1, OUTSIDE = -2, STATE = -3, FULL = -4, NONE = -9;

    private int[] kind = {}, strength = {}, feint = {};
    private boolean[] gone = {};
    private int games, trace, fault;
    private final List<int[]> readings = new ArrayList<>();
    private final Object[] sheets = new Object[4];

    private int people() {
        return kind.length;
    }

    private boolean no(int p) {
        return p < 0 || p >= people();
    }

    private boolean noTwo(int a, int b) {
        return no(a) || no(b) || a == b;
    }

    private int best(int p) {
        return new int[] {strength[p], strength[p] + 1, strength[p] * 2}[kind[p]];
    }

    private int worst(int p) {
        int w = best(p) - feint[p];
        return w < 0 ? 0 : w;
    }

    private static boolean isIn(int v, int from, int to) {
        return from <= v && v <= to;
    }

    private int countGone() {
        int n = 0;
        for (boolean g : gone) {
            n += g ? 1 : 0;
        }
        return n;
    }

    int ofPerson(int p, int what) {
        if (no(p)) {
            return UNKNOWN;
        }
        if (!isIn(what, 0, 5)) {
            return OUTSIDE;
        }
        return new int[] {kind[p], strength[p], feint[p], best(p), worst(p), gone[p] ? 1 : 0}[what];
    }

    int train(int p, int v) {
        return no(p) ? UNKNOWN : isIn(v, 0, 9) ? swap(strength, p, v) : OUTSIDE;
    }

    int learn(int p, int v) {
        return no(p) ? UNKNOWN : isIn(v, 0, 9) ? swap(feint, p, v) : OUTSIDE;
    }

    private static int swap(int[] row, int i, int v) {
        int was = row[i];
        row[i] = v;
        return was;
    }

    int game(int a, int b, int x, int y) {
        if (noTwo(a, b)) {
            return UNKNOWN;
        }
        if (!isIn(x, worst(a), best(a)) || !isIn(y, worst(b), best(b))) {
            return OUTSIDE;
        }
        return gone[a] || gone[b] ? STATE : play(a, b, x, y);
    }

    private int play(int a, int b, int x, int y) {
        games++;
        int out = x == y ? NONE : x < y ? b : a;
        if (out != NONE) {
            gone[out] = true;
        }
        return out;
    }

    int shy(int a, int b) {
        if (noTwo(a, b)) {
            return UNKNOWN;
        }
        return gone[a] || gone[b] ? STATE : play(a, b, worst(a), worst(b));
    }

    int fetch(int p) {
        if (no(p)) {
            return UNKNOWN;
        }
        if (!gone[p]) {
            return STATE;
        }
        gone[p] = false;
        return countGone();
    }

    int safe(int a, int b) {
        if (noTwo(a, b)) {
            return UNKNOWN;
        }
        for (int x = worst(a); x <= best(a); x++) {
            boolean never = true;
            for (int y = worst(b); y <= best(b); y++) {
                never &= x <= y;
            }
            if (never) {
                return 1;
            }
        }
        return 0;
    }

    private long[] share(int a, int b) {
        long won = 0, all = 0;
        for (int x = worst(a); x <= best(a); x++) {
            for (int y = worst(b); y <= best(b); y++) {
                all++;
                won += x > y ? 1 : 0;
            }
        }
        long g = all, h = won;
        while (h != 0) {
            long rest = g % h;
            g = h;
            h = rest;
        }
        return new long[] {won / g, all / g};
    }

    int sure(int p) {
        if (no(p)) {
            return UNKNOWN;
        }
        int set = 0;
        for (int q = 0; q < people(); q++) {
            if (q != p && !gone[q] && share(p, q)[0] == share(p, q)[1]) {
                set += 1 << q;
            }
        }
        return set;
    }

    int common(int a, int b) {
        if (noTwo(a, b)) {
            return UNKNOWN;
        }
        int n = 0;
        for (int x = 0; x <= 18; x++) {
            n += isIn(x, worst(a), best(a)) && isIn(x, worst(b), best(b)) ? 1 : 0;
        }
        return n;
    }

    long odds(int a, int b, int which) {
        return noTwo(a, b) || !isIn(which, 0, 1) ? Long.MIN_VALUE : share(a, b)[which];
    }

    int pairs(int k) {
        if (!isIn(k, -1, 5)) {
            return OUTSIDE;
        }
        if (people() == 0) {
            return STATE;
        }
        List<int[]> rows = new ArrayList<>();
        rowsOfPartners(new int[people()], 0, rows);
        int[] first = null;
        for (int[] row : rows) {
            if (first == null || paired(row) > paired(first)
                || paired(row) == paired(first) && (goneBy(row) < goneBy(first)
                || goneBy(row) == goneBy(first) && Arrays.compare(row, first) < 0)) {
                first = row;
            }
        }
        if (k < 0) {
            return goneBy(first);
        }
        return k >= people() || first[k] == 9 ? NONE : first[k];
    }

    private void rowsOfPartners(int[] row, int p, List<int[]> rows) {
        if (p == row.length) {
            for (int q = 0; q < p; q++) {
                if (row[q] != 9 && (row[q] == q || row[row[q]] != q || gone[q])) {
                    return;
                }
            }
            rows.add(row.clone());
            return;
        }
        for (int q = 0; q < row.length; q++) {
            if (q > p || q < p && row[q] == p) {
                row[p] = q;
                rowsOfPartners(row, p + 1, rows);
            }
        }
        row[p] = 9;
        rowsOfPartners(row, p + 1, rows);
    }

    private int paired(int[] row) {
        int n = 0;
        for (int q : row) {
            n += q == 9 ? 0 : 1;
        }
        return n;
    }

    private int goneBy(int[] row) {
        int n = 0;
        for (int p = 0; p < row.length; p++) {
            n += row[p] != 9 && worst(p) > worst(row[p]) ? 1 : 0;
        }
        return n;
    }

    // ---- rows of sheets

    private static int laneOf(Object row) {
        return row instanceof byte[] ? 0 : row instanceof short[] ? 1 : 2;
    }

    /** The cells as ints; null, if there was a fault, which is kept then. */
    private int[] cells(int k, int lane, int i, int n) {
        fault = 0;
        if (sheets[k] == null) {
            fault = 1;
        } else if (laneOf(sheets[k]) != lane) {
            fault = 2;
        } else if (n < 0) {
            fault = 4;
        } else {
            int[] taken = new int[Math.min(n, 61)];
            int length = java.lang.reflect.Array.getLength(sheets[k]);
            if (i < 0 || (long) i + n > length) {
                fault = 3;
                return null;
            }
            for (int j = 0; j < n; j++) {
                taken[j] = java.lang.reflect.Array.getInt(sheets[k], i + j);
            }
            return taken;
        }
        return null;
    }

    int sheet(int k, int lane, int n) {
        fault = 0;
        if (!isIn(k, 0, 3)) {
            return UNKNOWN;
        }
        if (!isIn(lane, 0, 2) || n > 60) {
            return OUTSIDE;
        }
        try {
            sheets[k] = lane == 0 ? new byte[n] : lane == 1 ? new short[n] : (Object) new int[n];
            return 1;
        } catch (NegativeArraySizeException e) {
            fault = 4;
            return -14;
        }
    }

    int lose(int k) {
        if (!isIn(k, 0, 3)) {
            return UNKNOWN;
        }
        int had = sheets[k] == null ? 0 : 1;
        sheets[k] = null;
        return had;
    }

    int put(int k, int i, int v) {
        fault = 0;
        if (!isIn(k, 0, 3)) {
            return UNKNOWN;
        }
        try {
            if (sheets[k] instanceof byte[] b) {
                b[i] = (byte) v;
            } else if (sheets[k] instanceof short[] s) {
                s[i] = (short) v;
            } else {
                ((int[]) sheets[k])[i] = v;
            }
            return 1;
        } catch (NullPointerException e) {
            fault = 1;
        } catch (ArrayIndexOutOfBoundsException e) {
            fault = 3;
        }
        return -10 - fault;
    }

    long cell(int k, int i, int lane) {
        fault = 0;
        if (!isIn(k, 0, 3) || !isIn(lane, 0, 2)) {
            return Long.MIN_VALUE;
        }
        int[] taken = cells(k, lane, i, 1);
        return taken == null ? Long.MIN_VALUE : taken[0];
    }

    int copy(int k, int i, int other, int j, int n) {
        fault = 0;
        if (!isIn(k, 0, 3) || !isIn(other, 0, 3)) {
            return UNKNOWN;
        }
        try {
            System.arraycopy(sheets[k], i, sheets[other], j, n);
            return n;
        } catch (NullPointerException e) {
            fault = 1;
        } catch (ArrayStoreException e) {
            fault = 2;
        } catch (IndexOutOfBoundsException e) {
            fault = 3;
        }
        return -10 - fault;
    }

    int harbour(int sheet, int lane, int i, int n) {
        fault = 0;
        if (!isIn(sheet, 0, 3)) {
            return UNKNOWN;
        }
        if (!isIn(lane, 0, 2)) {
            return OUTSIDE;
        }
        int[] codes = cells(sheet, lane, i, n);
        if (codes == null) {
            return -10 - fault;
        }
        StringBuilder text = new StringBuilder();
        for (int code : codes) {
            text.append(code < 0 || code > 255 ? '?' : (char) code);
        }
        String person = ";[plc][0-9][0-9]";
        if (!text.toString().matches("v(" + person + "){2,6}")) {
            java.util.regex.Matcher m = java.util.regex.Pattern.compile("v(" + person + "){2,6}").matcher("");
            for (int end = 1; end <= n; end++) {
                m.reset(text.substring(0, end));
                if (!m.matches() && !m.hitEnd()) {
                    return -100 - (end - 1);
                }
            }
            return -100 - n;
        }
        String[] told = text.substring(2).split(";");
        kind = new int[told.length];
        strength = new int[told.length];
        feint = new int[told.length];
        gone = new boolean[told.length];
        for (int p = 0; p < told.length; p++) {
            kind[p] = "plc".indexOf(told[p].charAt(0));
            strength[p] = told[p].charAt(1) - '0';
            feint[p] = told[p].charAt(2) - '0';
        }
        games = 0;
        readings.clear();
        return told.length;
    }

    private int refused(int sheet, int lane, int i, int n, boolean fits) {
        fault = 0;
        if (!isIn(sheet, 0, 3)) {
            return UNKNOWN;
        }
        if (!isIn(lane, 0, 2) || !fits) {
            return OUTSIDE;
        }
        if (cells(sheet, lane, i, 2 * n) == null) {
            return -10 - fault;
        }
        return people() == 0 ? STATE : 0;
    }

    int season(int sheet, int lane, int i, int n, int what) {
        boolean fits = isIn(n, 0, 20) && (isIn(what, 0, 4) || isIn(what, 10, 15));
        int refusal = refused(sheet, lane, i, n, fits);
        if (refusal != 0) {
            return refusal;
        }
        int[] acts = cells(sheet, lane, i, 2 * n);
        for (int j = 0; j < n; j++) {
            int act = acts[2 * j + 1];
            if (!isIn(act, 0, 5) && act != 10 && !isIn(act, 20, 29)) {
                return OUTSIDE;
            }
            if (no(acts[2 * j])) {
                return UNKNOWN;
            }
        }
        int[] feintsNow = feint.clone();
        boolean[] goneNow = gone.clone();
        int gamesNow = games;
        int answer = playSeason(acts, what);
        feint = feintsNow;
        gone = goneNow;
        games = gamesNow;
        return answer;
    }

    private int playSeason(int[] acts, int what) {
        int draws = 0, last = NONE;
        int[] plays = new int[6];
        for (int j = 0; j < acts.length; j += 2) {
            int p = acts[j], act = acts[j + 1];
            int got = act >= 20 ? learn(p, act - 20) : act == 10 ? fetch(p) : shy(p, act);
            if (got < 0 && got != NONE) {
                return what == 1 ? j / 2 : -100 - j / 2;
            }
            if (act < 10) {
                plays[p]++;
                plays[act]++;
                draws += got == NONE ? 1 : 0;
                last = got == NONE ? last : got;
            }
        }
        int set = 0;
        for (int p = 0; p < people(); p++) {
            set += gone[p] ? 1 << p : 0;
        }
        if (what >= 10) {
            return no(what - 10) ? NONE : plays[what - 10];
        }
        return new int[] {people() - countGone(), NONE, set, draws, last}[what];
    }

    private boolean noTwos(int[] twos) {
        for (int j = 0; j < twos.length; j += 2) {
            if (noTwo(twos[j], twos[j + 1])) {
                return true;
            }
        }
        return false;
    }

    /** All rows of people in their order. */
    private void rowsOfAll(List<Integer> row, List<List<Integer>> rows) {
        if (row.size() == people()) {
            rows.add(new ArrayList<>(row));
        }
        for (int p = 0; p < people(); p++) {
            if (!row.contains(p)) {
                row.add(p);
                rowsOfAll(row, rows);
                row.remove(row.size() - 1);
            }
        }
    }

    /** The set of twos that a row is against. */
    private static int against(List<Integer> row, int[] twos) {
        int set = 0;
        for (int j = 0; j < twos.length; j += 2) {
            set += row.indexOf(twos[j]) > row.indexOf(twos[j + 1]) ? 1 << j / 2 : 0;
        }
        return set;
    }

    int orders(int sheet, int lane, int i, int n, int k) {
        int refusal = refused(sheet, lane, i, n, isIn(n, 0, 10) && isIn(k, -1, 5));
        if (refusal != 0) {
            return refusal;
        }
        int[] twos = cells(sheet, lane, i, 2 * n);
        if (noTwos(twos)) {
            return UNKNOWN;
        }
        List<List<Integer>> rows = new ArrayList<>();
        rowsOfAll(new ArrayList<>(), rows);
        rows.removeIf(row -> against(row, twos) != 0);
        if (k < 0) {
            return rows.size();
        }
        return rows.isEmpty() || k >= people() ? NONE : rows.get(0).get(k);
    }

    int drops(int sheet, int lane, int i, int n) {
        int refusal = refused(sheet, lane, i, n, isIn(n, 0, 10));
        if (refusal != 0) {
            return refusal;
        }
        int[] twos = cells(sheet, lane, i, 2 * n);
        if (noTwos(twos)) {
            return UNKNOWN;
        }
        List<List<Integer>> rows = new ArrayList<>();
        rowsOfAll(new ArrayList<>(), rows);
        // the fewest to be left out are all those that some row is against
        int least = (1 << 11) - 1;
        for (List<Integer> row : rows) {
            int set = against(row, twos);
            int fewer = Integer.bitCount(set) - Integer.bitCount(least);
            least = fewer < 0 || fewer == 0 && set < least ? set : least;
        }
        return least;
    }

    int reading(int a, int b, int how, int result) {
        if (noTwo(a, b)) {
            return UNKNOWN;
        }
        if (!isIn(how, 0, 1) || !isIn(result, 0, 2)) {
            return OUTSIDE;
        }
        if (readings.size() == 8) {
            return FULL;
        }
        readings.add(new int[] {a, b, how, result});
        return readings.size() - 1;
    }

    int back(int n) {
        if (!isIn(n, 0, readings.size())) {
            return OUTSIDE;
        }
        readings.subList(readings.size() - n, readings.size()).clear();
        return readings.size();
    }

    private int could(int[] trait, int p, int values) {
        if (no(p)) {
            return UNKNOWN;
        }
        int set = 0, own = trait[p];
        for (int v = 0; v < values; v++) {
            trait[p] = v;
            boolean so = true;
            for (int[] r : readings) {
                int x = r[2] == 0 ? best(r[0]) : worst(r[0]);
                int y = r[2] == 0 ? best(r[1]) : worst(r[1]);
                so &= r[3] == (x < y ? 0 : x == y ? 1 : 2);
            }
            set += so ? 1 << v : 0;
        }
        trait[p] = own;
        return set;
    }

    int strengths(int p) {
        return could(strength, p, 10);
    }

    int feints(int p) {
        return could(feint, p, 10);
    }

    int kinds(int p) {
        return could(kind, p, 3);
    }

    int tell(int p) {
        if (no(p)) {
            return UNKNOWN;
        }
        int[][] bodies = {{1}, {2, 1}, {3, 2, 1, 1}};
        for (int body : bodies[kind[p]]) {
            trace = trace * 31 + body;
        }
        return new int[] {strength[p], strength[p] + 100, 2 * strength[p] + 100}[kind[p]];
    }

    int wave(int p) {
        if (no(p)) {
            return UNKNOWN;
        }
        trace = trace * 31 + (kind[p] == 2 ? 5 : 4);
        return kind[p] == 2 ? 30 : feint[p];
    }

    int as(int p, int asKind) {
        fault = 0;
        if (no(p)) {
            return UNKNOWN;
        }
        if (!isIn(asKind, 0, 2)) {
            return OUTSIDE;
        }
        fault = asKind > kind[p] ? 2 : 0;
        return fault == 0 ? 1 : -12;
    }

    int trace() {
        return trace;
    }

    int fault() {
        return fault;
    }

    int many(int what) {
        return isIn(what, 0, 3) ? new int[] {people(), countGone(), games, readings.size()}[what] : OUTSIDE;
    }
}
