import java.math.BigInteger;
import java.util.ArrayList;
import java.util.Arrays;
import java.util.List;
import java.util.Map;
import java.util.TreeMap;

/** The document's words as plainly as they can be put, without care for cost. */
final class Model {
    String text = "";
    int[][] pace = new int[6][3];
    int[][] like = new int[6][8];
    int[] skip = new int[8];
    int[][] trait = new int[6][3];
    int[] evening = {120, 60};
    List<int[]> turns = new ArrayList<>();
    int[][] sheets = new int[4][];
    int[] forms = new int[4];
    int finding = 0;

    Model() {
        for (int r = 0; r < 6; r++) {
            Arrays.fill(pace[r], 3);
            trait[r][1] = 1;
        }
    }

    static boolean out(int v, int least, int most) {
        return v < least || v > most;
    }

    int found(int n) {
        finding = n;
        return -10 - n;
    }

    int type(int b) {
        if (out(b, 0, 255)) {
            return -2;
        }
        if (text.length() == 60) {
            return -4;
        }
        text += (char) b;
        return text.length();
    }

    int wipe() {
        int had = text.length();
        text = "";
        return had;
    }

    int fault() {
        if (text.isEmpty()) {
            return -1;
        }
        int at = 0;
        for (int c = 0; ; c++) {
            if (c == 8 || at == text.length() || "pvd".indexOf(text.charAt(at)) < 0) {
                return at;
            }
            for (int f = 1; f <= 2; f++) {
                if (at + f == text.length() || "0123456789".indexOf(text.charAt(at + f)) < 0) {
                    return at + f;
                }
            }
            if (text.startsWith("00", at + 1)) {
                return at + 1;
            }
            at += 3;
            if (at == text.length()) {
                return -1;
            }
            if (text.charAt(at) != ';') {
                return at;
            }
            at++;
        }
    }

    int chapters() {
        return text.isEmpty() || fault() >= 0 ? 0 : text.split(";").length;
    }

    int kind(int c) {
        return "pvd".indexOf(text.split(";")[c].charAt(0));
    }

    int lines(int c) {
        return Integer.parseInt(text.split(";")[c].substring(1));
    }

    boolean noChapter(int c) {
        return out(c, 0, chapters() - 1);
    }

    int chapter(int c, int what) {
        if (noChapter(c) || out(what, 0, 2)) {
            return -2;
        }
        return new int[] {kind(c), lines(c), skip[c]}[what];
    }

    int pace(int r, int k, int v) {
        if (out(r, 0, 5) || out(k, 0, 2) || out(v, 1, 9)) {
            return -2;
        }
        int was = pace[r][k];
        pace[r][k] = v;
        return was;
    }

    int read(int s, int r) {
        if (out(s, 0, 3) || out(r, 0, 5)) {
            return -2;
        }
        if (sheets[s] == null) {
            return found(1);
        }
        int n = 0;
        for (int v : sheets[s]) {
            if (n == 3 || out(v, 1, 9)) {
                break;
            }
            pace[r][n++] = v;
        }
        return n;
    }

    int like(int r, int c, int v) {
        if (out(r, 0, 5) || out(c, 0, 7) || out(v, 0, 1)) {
            return -2;
        }
        int was = like[r][c];
        like[r][c] = v;
        return was;
    }

    int skip(int c, int v) {
        if (out(c, 0, 7) || out(v, 0, 1)) {
            return -2;
        }
        int was = skip[c];
        skip[c] = v;
        return was;
    }

    int reader(int r, int what, int v) {
        if (out(r, 0, 5) || out(what, 0, 2) || out(v, 0, new int[] {99, 9, 4}[what])) {
            return -2;
        }
        int was = trait[r][what];
        trait[r][what] = v;
        return was;
    }

    int set(int what, int v) {
        if (out(what, 0, 1) || out(v, 0, 999)) {
            return -2;
        }
        int was = evening[what];
        evening[what] = v;
        return was;
    }

    int timeAt(int r, int c, int p) {
        return (int) Math.ceil(lines(c) / (double) p) * (1 + like[r][c]);
    }

    int time(int r, int c) {
        return out(r, 0, 5) || noChapter(c) ? -2 : timeAt(r, c, pace[r][kind(c)]);
    }

    List<Integer> members(int set) {
        List<Integer> all = new ArrayList<>();
        for (int r = 0; r < 6; r++) {
            if ((set & 1 << r) != 0) {
                all.add(r);
            }
        }
        return all;
    }

    int together(int set, int c) {
        return members(set).stream().mapToInt(r -> time(r, c)).max().getAsInt();
    }

    List<Integer> toRead() {
        List<Integer> all = new ArrayList<>();
        for (int c = 0; c < chapters(); c++) {
            if (skip[c] == 0) {
                all.add(c);
            }
        }
        return all;
    }

    int evening(int set, int from, int what) {
        if (out(set, 1, 63) || noChapter(from) || out(what, 0, 2)) {
            return -2;
        }
        int n = 0;
        int minute = 0;
        for (int c : toRead()) {
            if (c >= from) {
                if (minute + together(set, c) > evening[0]) {
                    return new int[] {n, minute, c}[what];
                }
                n++;
                minute += together(set, c);
            }
        }
        return new int[] {n, minute, -1}[what];
    }

    int waited(int set, int from, int r, int what) {
        if (out(set, 1, 63) || noChapter(from) || out(r, 0, 5) || !members(set).contains(r) || out(what, 0, 1)) {
            return -2;
        }
        int left = evening(set, from, 0);
        int sum = 0;
        for (int c : toRead()) {
            if (c >= from && left > 0) {
                left--;
                sum += together(set, c) - time(r, c);
            }
        }
        return what == 0 ? sum : Math.max(0, trait[r][0] - sum);
    }

    boolean notTwo(int a, int b) {
        return out(a, 0, 5) || out(b, 0, 5) || a == b;
    }

    /** LINES, WAITED, minutes, and the row behind them. */
    int[] bestRow(int a, int b) {
        int n = chapters();
        int[] ta = new int[n];
        int[] tb = new int[n];
        int[] lines = new int[n];
        for (int c = 0; c < n; c++) {
            ta[c] = time(a, c);
            tb[c] = time(b, c);
            lines[c] = lines(c);
        }
        int[] best = null;
        int rows = (int) Math.round(Math.pow(3, n));
        for (int number = 0; number < rows; number++) {
            int[] it = new int[3 + n];
            int dayA = 0;
            int dayB = 0;
            boolean well = true;
            int rest = number;
            for (int c = n - 1; c >= 0; c--) {
                int way = rest % 3;
                rest /= 3;
                it[3 + c] = way;
                well &= skip[c] == 0 || way == 2;
                it[0] += way == 2 ? 0 : lines[c];
                it[1] += way == 0 ? Math.max(ta[c], tb[c]) * 2 - ta[c] - tb[c] : 0;
                it[2] += way == 0 ? Math.max(ta[c], tb[c]) : 0;
                dayA += way == 1 ? ta[c] : 0;
                dayB += way == 1 ? tb[c] : 0;
            }
            well &= it[2] <= evening[0] && dayA <= evening[1] && dayB <= evening[1];
            if (well && (best == null || it[0] > best[0] || it[0] == best[0] && it[1] < best[1])) {
                best = it;
            }
        }
        return best;
    }

    int best(int a, int b, int what) {
        return notTwo(a, b) || out(what, 0, 2) ? -2 : bestRow(a, b)[what];
    }

    int how(int a, int b, int c) {
        return notTwo(a, b) || noChapter(c) ? -2 : bestRow(a, b)[3 + c];
    }

    int gain(int a, int b, int slowA, int slowB) {
        if (notTwo(a, b) || out(slowA, 0, 3) || out(slowB, 0, 3)) {
            return -10002;
        }
        int sum = 0;
        for (int c : toRead()) {
            int ta = time(a, c) + slowA;
            int tb = time(b, c) + slowB;
            sum += trait[a][1] * slowA;
            sum -= Math.max(ta, tb) - ta;
        }
        return sum;
    }

    int rests(int a, int b, int i) {
        if (notTwo(a, b) || i < -1) {
            return -2;
        }
        List<Integer> all = new ArrayList<>();
        for (int sa = 0; sa < 4; sa++) {
            for (int sb = 0; sb < 4; sb++) {
                boolean rest = true;
                for (int o = 0; o < 4; o++) {
                    rest &= gain(a, b, o, sb) <= gain(a, b, sa, sb) && gain(b, a, o, sa) <= gain(b, a, sb, sa);
                }
                if (rest) {
                    all.add(4 * sa + sb);
                }
            }
        }
        return i == -1 ? all.size() : i < all.size() ? all.get(i) : -1;
    }

    /** All ways to sit, the least ones first: partners by READER. */
    void ways(List<Integer> left, int[] partners, List<int[]> all) {
        if (left.isEmpty()) {
            all.add(partners.clone());
            return;
        }
        for (int i = 1; i < left.size(); i++) {
            partners[left.get(0)] = left.get(i);
            partners[left.get(i)] = left.get(0);
            List<Integer> rest = new ArrayList<>(left);
            rest.remove(i);
            rest.remove(0);
            ways(rest, partners, all);
        }
    }

    int pairs(int set, int r) {
        if (out(set, 1, 63) || r != -1 && (out(r, 0, 5) || !members(set).contains(r))) {
            return -2;
        }
        if (members(set).size() % 2 == 1) {
            return -3;
        }
        List<int[]> all = new ArrayList<>();
        ways(members(set), new int[6], all);
        int least = Integer.MAX_VALUE;
        int[] way = null;
        for (int[] it : all) {
            int sum = 0;
            for (int a : members(set)) {
                for (int c : toRead()) {
                    sum += Math.max(time(a, c), time(it[a], c)) - time(a, c);
                }
            }
            if (sum < least) {
                least = sum;
                way = it;
            }
        }
        return r == -1 ? least : way[r];
    }

    int turn(int c, int set, int t) {
        if (out(c, 0, 7) || out(set, 1, 63) || out(t, 0, 999)) {
            return -2;
        }
        if (turns.size() == 8) {
            return -4;
        }
        turns.add(new int[] {c, set, t});
        return turns.size();
    }

    int forget() {
        int had = turns.size();
        turns.clear();
        return had;
    }

    int paces(int r, int k) {
        if (out(r, 0, 5) || out(k, 0, 2)) {
            return -2;
        }
        int was = pace[r][k];
        int bits = 0;
        for (int p = 1; p <= 9; p++) {
            pace[r][k] = p;
            boolean fits = true;
            for (int[] t : turns) {
                if (!noChapter(t[0]) && kind(t[0]) == k && members(t[1]).contains(r)) {
                    fits &= together(t[1], t[0]) == t[2];
                }
            }
            bits += fits ? 1 << p - 1 : 0;
        }
        pace[r][k] = was;
        return bits;
    }

    int unlike() {
        int n = 0;
        for (int[] t : turns) {
            n += noChapter(t[0]) || together(t[1], t[0]) != t[2] ? 1 : 0;
        }
        return n;
    }

    /** By minutes, how many of the cases of one CHAPTER. */
    Map<Integer, BigInteger> lengths(int set, int c) {
        Map<Integer, BigInteger> all = new TreeMap<>();
        all.put(0, BigInteger.ONE);
        for (int r : members(set)) {
            Map<Integer, BigInteger> more = new TreeMap<>();
            for (Map.Entry<Integer, BigInteger> e : all.entrySet()) {
                for (int quarter = 0; quarter < 4; quarter++) {
                    int t = time(r, c) * (quarter < trait[r][2] ? 2 : 1);
                    more.merge(Math.max(e.getKey(), t), e.getValue(), BigInteger::add);
                }
            }
            all = more;
        }
        return all;
    }

    Map<Integer, BigInteger> allLengths(int set) {
        Map<Integer, BigInteger> all = new TreeMap<>();
        all.put(0, BigInteger.ONE);
        for (int c : toRead()) {
            Map<Integer, BigInteger> more = new TreeMap<>();
            Map<Integer, BigInteger> one = lengths(set, c);
            for (Map.Entry<Integer, BigInteger> e : all.entrySet()) {
                for (Map.Entry<Integer, BigInteger> f : one.entrySet()) {
                    more.merge(e.getKey() + f.getKey(), e.getValue().multiply(f.getValue()), BigInteger::add);
                }
            }
            all = more;
        }
        return all;
    }

    static long part(BigInteger above, BigInteger below, int what) {
        BigInteger common = above.gcd(below);
        return (what == 0 ? above : below).divide(common).longValueExact();
    }

    long done(int set, int minute, int what) {
        if (out(set, 1, 63) || out(minute, 0, 9999) || out(what, 0, 1)) {
            return Long.MIN_VALUE + 2;
        }
        if (members(set).size() > 3) {
            return Long.MIN_VALUE + 4;
        }
        BigInteger above = BigInteger.ZERO;
        BigInteger below = BigInteger.ZERO;
        for (Map.Entry<Integer, BigInteger> e : allLengths(set).entrySet()) {
            above = e.getKey() <= minute ? above.add(e.getValue()) : above;
            below = below.add(e.getValue());
        }
        return part(above, below, what);
    }

    long mean(int set, int what) {
        if (out(set, 1, 63) || out(what, 0, 1)) {
            return Long.MIN_VALUE + 2;
        }
        if (members(set).size() > 3) {
            return Long.MIN_VALUE + 4;
        }
        BigInteger above = BigInteger.ZERO;
        BigInteger below = BigInteger.ZERO;
        for (Map.Entry<Integer, BigInteger> e : allLengths(set).entrySet()) {
            above = above.add(e.getValue().multiply(BigInteger.valueOf(e.getKey())));
            below = below.add(e.getValue());
        }
        return part(above, below, what);
    }

    int sheet(int s, int form, int n) {
        if (out(s, 0, 3) || out(form, 0, 2) || n > 60) {
            return -2;
        }
        if (n < 0) {
            return found(5);
        }
        sheets[s] = new int[n];
        forms[s] = form;
        return n;
    }

    int lose(int s) {
        if (out(s, 0, 3)) {
            return -2;
        }
        if (sheets[s] == null) {
            return found(1);
        }
        int n = sheets[s].length;
        sheets[s] = null;
        return n;
    }

    int item(int s, int form, int i) {
        if (sheets[s] == null) {
            return found(1);
        }
        if (forms[s] != form) {
            return found(3);
        }
        return out(i, 0, sheets[s].length - 1) ? found(2) : 1;
    }

    static int narrow(int form, int v) {
        return form == 0 ? v << 24 >> 24 : form == 1 ? v << 16 >> 16 : v;
    }

    int lay(int s, int form, int i, int v) {
        if (out(s, 0, 3) || out(form, 0, 2)) {
            return -2;
        }
        int answer = item(s, form, i);
        if (answer == 1) {
            sheets[s][i] = narrow(form, v);
        }
        return answer;
    }

    int get(int s, int form, int i) {
        if (out(s, 0, 3) || out(form, 0, 2) || item(s, form, i) != 1) {
            return Integer.MIN_VALUE;
        }
        return sheets[s][i];
    }

    int copy(int s, int i, int t, int j, int n) {
        if (out(s, 0, 3) || out(t, 0, 3)) {
            return -2;
        }
        if (sheets[s] == null || sheets[t] == null) {
            return found(1);
        }
        if (forms[s] != forms[t]) {
            return found(4);
        }
        try {
            System.arraycopy(sheets[s], i, sheets[t], j, n);
            return 1;
        } catch (IndexOutOfBoundsException e) {
            return found(2);
        }
    }

    int write(int r, int s) {
        if (out(r, 0, 5) || out(s, 0, 3)) {
            return -2;
        }
        if (sheets[s] == null) {
            return found(1);
        }
        int n = 0;
        for (int c = 0; c < chapters() && c < sheets[s].length; c++) {
            sheets[s][c] = narrow(forms[s], time(r, c));
            n++;
        }
        return n;
    }

    int count(int what) {
        int lines = 0;
        int skips = 0;
        int likes = 0;
        for (int c = 0; c < chapters(); c++) {
            lines += lines(c);
            skips += skip[c];
            for (int r = 0; r < 6; r++) {
                likes += like[r][c];
            }
        }
        int[] all = {chapters(), text.length(), lines, skips, likes, turns.size(), evening[0], evening[1], finding};
        return out(what, 0, 8) ? -2 : all[what];
    }

    long digest() {
        List<Long> all = new ArrayList<>();
        for (int what = 0; what < 8; what++) {
            all.add((long) count(what));
        }
        all.add((long) fault());
        int[] row = bestRow(0, 1);
        for (int c = 0; c < chapters(); c++) {
            for (int what = 0; what < 3; what++) {
                all.add((long) chapter(c, what));
            }
            for (int r = 0; r < 6; r++) {
                all.add((long) time(r, c));
            }
            for (int what = 0; what < 3; what++) {
                all.add((long) evening(3, c, what));
            }
            all.add((long) waited(3, c, 1, 0));
            all.add((long) waited(3, c, 1, 1));
            all.add((long) row[3 + c]);
        }
        int[] other = bestRow(4, 5);
        all.addAll(List.of((long) row[0], (long) row[1], (long) row[2]));
        all.addAll(List.of((long) other[0], (long) other[1], (long) other[2]));
        all.addAll(List.of((long) rests(0, 1, -1), (long) rests(0, 1, 0)));
        all.addAll(List.of((long) gain(0, 1, 2, 1), (long) gain(1, 0, 1, 2), (long) pairs(63, -1)));
        for (int r = 0; r < 6; r++) {
            all.addAll(List.of((long) pairs(63, r), (long) paces(r, 0), (long) paces(r, 1), (long) paces(r, 2)));
        }
        all.add((long) unlike());
        all.addAll(List.of(done(7, 60, 0), done(7, 60, 1), mean(7, 0), mean(7, 1)));
        long h = 17;
        for (long v : all) {
            h = 31 * h + v;
        }
        return h;
    }
}
