import java.util.ArrayList;
import java.util.Arrays;
import java.util.List;
import java.util.regex.Matcher;
import java.util.regex.Pattern;

/**
 * The document once more, by trying everything: all permutations, all subsets, all ways.
 * Slow, and written apart from the class, so that the two can be held against one another.
 */
final class PlainGauge {
    static final int NONE = -1;

    /** An order with its rows; never changed once made. */
    static final class Plain {
        final int n;
        final boolean[][] less;
        final List<int[]> rows;
        private List<int[]> lines;

        Plain(int n, boolean[][] less, List<int[]> rows) {
            this.n = n;
            this.less = less;
            this.rows = rows;
        }

        boolean free(int a, int b) {
            return a != b && !less[a][b] && !less[b][a];
        }

        boolean covers(int high, int low) {
            if (!less[low][high]) {
                return false;
            }
            for (int c = 0; c < n; c++) {
                if (less[low][c] && less[c][high]) {
                    return false;
                }
            }
            return true;
        }

        int pairs() {
            int found = 0;
            for (boolean[] line : less) {
                for (boolean one : line) {
                    found += one ? 1 : 0;
                }
            }
            return found;
        }

        List<int[]> lines() {
            if (lines == null) {
                lines = new ArrayList<>();
                for (int[] row : permutations(n)) {
                    if (isLine(row)) {
                        lines.add(row);
                    }
                }
            }
            return lines;
        }

        boolean isLine(int[] row) {
            for (int i = 0; i < n; i++) {
                for (int j = 0; j < i; j++) {
                    if (less[row[i]][row[j]]) {
                        return false;
                    }
                }
            }
            return true;
        }

        boolean same(Plain other) {
            if (other == null || n != other.n || !Arrays.deepEquals(less, other.less) || rows.size() != other.rows.size()) {
                return false;
            }
            for (int i = 0; i < rows.size(); i++) {
                if (!Arrays.equals(rows.get(i), other.rows.get(i))) {
                    return false;
                }
            }
            return true;
        }

        boolean isChain(int set) {
            for (int a = 0; a < n; a++) {
                for (int b = 0; b < n; b++) {
                    if (in(set, a) && in(set, b) && free(a, b)) {
                        return false;
                    }
                }
            }
            return true;
        }

        boolean isAnti(int set) {
            for (int a = 0; a < n; a++) {
                for (int b = 0; b < n; b++) {
                    if (in(set, a) && in(set, b) && less[a][b]) {
                        return false;
                    }
                }
            }
            return true;
        }

        int[] climb(int chain) {
            List<Integer> things = new ArrayList<>();
            for (int a = 0; a < n; a++) {
                if (in(chain, a)) {
                    things.add(a);
                }
            }
            things.sort((a, b) -> a.equals(b) ? 0 : less[a][b] ? -1 : 1);
            return things.stream().mapToInt(Integer::intValue).toArray();
        }

        boolean critical(int a, int b) {
            if (!free(a, b)) {
                return false;
            }
            for (int c = 0; c < n; c++) {
                if (less[c][a] && !less[c][b] || less[b][c] && !less[a][c]) {
                    return false;
                }
            }
            return true;
        }

        List<int[]> criticals() {
            List<int[]> found = new ArrayList<>();
            for (int a = 0; a < n; a++) {
                for (int b = 0; b < n; b++) {
                    if (critical(a, b)) {
                        found.add(new int[] {a, b});
                    }
                }
            }
            return found;
        }

        int jumps(int[] row) {
            int found = 0;
            for (int i = 0; i + 1 < n; i++) {
                found += less[row[i]][row[i + 1]] ? 0 : 1;
            }
            return found;
        }
    }

    private static final List<List<int[]>> PERMUTATIONS = new ArrayList<>();

    static List<int[]> permutations(int n) {
        while (PERMUTATIONS.size() <= n) {
            List<int[]> all = new ArrayList<>();
            permute(new int[PERMUTATIONS.size()], 0, 0, all);
            PERMUTATIONS.add(all);
        }
        return PERMUTATIONS.get(n);
    }

    private static void permute(int[] row, int at, int used, List<int[]> all) {
        if (at == row.length) {
            all.add(row.clone());
            return;
        }
        for (int x = 0; x < row.length; x++) {
            if (!in(used, x)) {
                row[at] = x;
                permute(row, at + 1, used | 1 << x, all);
            }
        }
    }

    static boolean in(int set, int thing) {
        return (set & 1 << thing) != 0;
    }

    static int where(int[] row, int thing) {
        for (int i = 0; i < row.length; i++) {
            if (row[i] == thing) {
                return i;
            }
        }
        throw new IllegalStateException();
    }

    static void close(boolean[][] less) {
        int n = less.length;
        for (int c = 0; c < n; c++) {
            for (int a = 0; a < n; a++) {
                for (int b = 0; b < n; b++) {
                    less[a][b] |= less[a][c] && less[c][b];
                }
            }
        }
    }

    static boolean[][] copy(boolean[][] less) {
        boolean[][] made = new boolean[less.length][];
        for (int i = 0; i < less.length; i++) {
            made[i] = less[i].clone();
        }
        return made;
    }

    private Plain[] slots = new Plain[3];
    private final List<Plain[]> past = new ArrayList<>();
    private StringBuilder tape = new StringBuilder();
    private String out = "";
    private int fault = 0;
    private int faultPlace = NONE;

    private boolean slotOk(int slot) {
        return slot >= 0 && slot <= 2;
    }

    Plain plain(int slot) {
        return slotOk(slot) ? slots[slot] : null;
    }

    private void act(int slot, Plain now) {
        past.add(slots.clone());
        if (past.size() > 10) {
            past.remove(0);
        }
        slots[slot] = now;
    }

    private void actIfOtherwise(int slot, Plain now) {
        if (!now.same(slots[slot])) {
            act(slot, now);
        }
    }

    int feed(int a, int b, int c, int d, int e) {
        if (tape.length() > 380) {
            return NONE;
        }
        for (int number : new int[] {a, b, c, d, e}) {
            for (int shift = 24; shift >= 0; shift -= 8) {
                tape.append((char) (number >>> shift & 0xff));
            }
        }
        return tape.length();
    }

    int end(int n) {
        if (n < 0 || n > tape.length()) {
            return NONE;
        }
        tape.setLength(n);
        return n;
    }

    int told(int slot) {
        if (!slotOk(slot)) {
            return -2;
        }
        String text = tape.toString();
        tape.setLength(0);
        Plain made = parse(text);
        if (made == null) {
            return -4;
        }
        fault = 0;
        faultPlace = NONE;
        actIfOtherwise(slot, made);
        return made.pairs();
    }

    private Plain bad(int kind, int place) {
        fault = kind;
        faultPlace = place;
        return null;
    }

    private Plain parse(String text) {
        List<String> words = new ArrayList<>();
        List<Integer> places = new ArrayList<>();
        Matcher m = Pattern.compile("[a-z]+|[0-9]+|[^ \\n]", Pattern.DOTALL).matcher(text);
        while (m.find()) {
            words.add(m.group());
            places.add(m.start());
        }
        words.add("");
        places.add(text.length());
        String state = "start";
        int n = 0;
        int lower = 0;
        boolean[][] less = null;
        List<int[]> rows = new ArrayList<>();
        for (int i = 0; i < words.size(); i++) {
            String w = words.get(i);
            int p = places.get(i);
            boolean digits = w.matches("[0-9]+");
            java.math.BigInteger value = digits ? new java.math.BigInteger(w) : null;
            switch (state) {
                case "start":
                    if (!w.equals("order")) return bad(1, p);
                    state = "n";
                    break;
                case "n":
                    if (!digits) return bad(1, p);
                    if (value.signum() == 0 || value.compareTo(java.math.BigInteger.valueOf(8)) > 0) return bad(2, p);
                    n = value.intValue();
                    less = new boolean[n][n];
                    state = "colon";
                    break;
                case "colon":
                    if (w.equals(":")) state = "first";
                    else if (w.equals(";")) state = "rows";
                    else return bad(1, p);
                    break;
                case "first":
                    if (!digits) return bad(1, p);
                    if (value.compareTo(java.math.BigInteger.valueOf(n)) >= 0) return bad(2, p);
                    lower = value.intValue();
                    state = "must";
                    break;
                case "must":
                    if (!w.equals("<")) return bad(1, p);
                    state = "next";
                    break;
                case "next":
                    if (!digits) return bad(1, p);
                    if (value.compareTo(java.math.BigInteger.valueOf(n)) >= 0) return bad(2, p);
                    int upper = value.intValue();
                    if (upper == lower || less[upper][lower]) return bad(3, p);
                    less[lower][upper] = true;
                    close(less);
                    lower = upper;
                    state = "more";
                    break;
                case "more":
                    if (w.equals("<")) state = "next";
                    else if (w.equals(",")) state = "first";
                    else if (w.equals(";")) state = "rows";
                    else return bad(1, p);
                    break;
                case "rows":
                    if (w.isEmpty()) return new Plain(n, less, rows);
                    if (!w.equals("row")) return bad(1, p);
                    if (rows.size() == 6) return bad(5, p);
                    state = "digits";
                    break;
                case "digits":
                    if (!digits) return bad(1, p);
                    int[] row = w.chars().map(c -> c - '0').toArray();
                    int[] sorted = row.clone();
                    Arrays.sort(sorted);
                    int[] want = new int[n];
                    for (int k = 0; k < n; k++) want[k] = k;
                    if (!Arrays.equals(sorted, want)) return bad(4, p);
                    rows.add(row);
                    state = "semicolon";
                    break;
                default:
                    if (!w.equals(";")) return bad(1, p);
                    state = "rows";
                    break;
            }
        }
        throw new IllegalStateException(text);
    }

    int fault(int what) {
        return what == 0 ? fault : what == 1 ? faultPlace : NONE;
    }

    int count(int what) {
        if (what == 0) {
            return (slots[0] != null ? 1 : 0) + (slots[1] != null ? 2 : 0) + (slots[2] != null ? 4 : 0);
        }
        return what == 1 ? past.size() : what == 2 ? tape.length() : what == 3 ? out.length() : NONE;
    }

    int look(int slot, int what) {
        Plain o = plain(slot);
        if (o == null || what < 0 || what > 8) {
            return -2;
        }
        int covers = 0;
        int free = 0;
        for (int a = 0; a < o.n; a++) {
            for (int b = 0; b < o.n; b++) {
                covers += o.covers(b, a) ? 1 : 0;
                free += a < b && o.free(a, b) ? 1 : 0;
            }
        }
        switch (what) {
            case 0: return o.n;
            case 1: return o.pairs();
            case 2: return covers;
            case 3: return height(o);
            case 4: return Integer.bitCount(anti(slot));
            case 5: return free;
            case 6: return ideals(o);
            case 7: return parts(o);
            default: return o.rows.size();
        }
    }

    private static int height(Plain o) {
        int most = 0;
        for (int set = 1; set < 1 << o.n; set++) {
            if (o.isChain(set)) {
                most = Math.max(most, Integer.bitCount(set));
            }
        }
        return most;
    }

    private static int ideals(Plain o) {
        int found = 0;
        for (int set = 0; set < 1 << o.n; set++) {
            boolean closed = true;
            for (int a = 0; a < o.n; a++) {
                for (int b = 0; b < o.n; b++) {
                    closed &= !(in(set, b) && o.less[a][b] && !in(set, a));
                }
            }
            found += closed ? 1 : 0;
        }
        return found;
    }

    private static int parts(Plain o) {
        int[] group = new int[o.n];
        for (int a = 0; a < o.n; a++) {
            group[a] = a;
        }
        for (int a = 0; a < o.n; a++) {
            for (int b = 0; b < o.n; b++) {
                if (o.less[a][b]) {
                    int from = group[a];
                    int to = group[b];
                    for (int c = 0; c < o.n; c++) {
                        if (group[c] == from) {
                            group[c] = to;
                        }
                    }
                }
            }
        }
        return (int) Arrays.stream(group).distinct().count();
    }

    int of(int slot, int thing, int what) {
        Plain o = plain(slot);
        if (o == null || thing < 0 || thing >= o.n || what < 0 || what > 4) {
            return -2;
        }
        int set = 0;
        for (int x = 0; x < o.n; x++) {
            boolean[] is = {o.less[x][thing], o.less[thing][x], o.free(x, thing), o.covers(thing, x), o.covers(x, thing)};
            set |= is[what] ? 1 << x : 0;
        }
        return set;
    }

    int is(int slot, int what) {
        Plain o = plain(slot);
        if (o == null || what < 0 || what > 6) {
            return -2;
        }
        switch (what) {
            case 0: return o.isChain((1 << o.n) - 1) ? 1 : 0;
            case 1: return o.isAnti((1 << o.n) - 1) ? 1 : 0;
            case 2: return lacks(o, "a<c b<c b<d") ? 1 : 0;
            case 3: return lacks(o, "a<b c<d") ? 1 : 0;
            case 4: return lacks(o, "a<b c<d") && lacks(o, "a<b b<c a<c") ? 1 : 0;
            case 5: return lattice(o) ? 1 : 0;
            default: return levelled(o) ? 1 : 0;
        }
    }

    /** No four things are just so: the twos named are below one another, all others are free. */
    private static boolean lacks(Plain o, String shape) {
        int[] t = new int[4];
        for (int code = 0; code < o.n * o.n * o.n * o.n; code++) {
            int rest = code;
            int set = 0;
            for (int i = 0; i < 4; i++) {
                t[i] = rest % o.n;
                rest /= o.n;
                set |= 1 << t[i];
            }
            if (Integer.bitCount(set) < 4) {
                continue;
            }
            boolean fits = true;
            for (int i = 0; i < 4; i++) {
                for (int j = 0; j < 4; j++) {
                    boolean want = shape.contains((char) ('a' + i) + "<" + (char) ('a' + j));
                    fits &= o.less[t[i]][t[j]] == want;
                }
            }
            if (fits) {
                return false;
            }
        }
        return true;
    }

    private static boolean lattice(Plain o) {
        for (int a = 0; a < o.n; a++) {
            for (int b = 0; b < o.n; b++) {
                boolean join = a == b;
                boolean meet = a == b;
                for (int c = 0; c < o.n; c++) {
                    boolean least = (c == a || o.less[a][c]) && (c == b || o.less[b][c]);
                    boolean greatest = (c == a || o.less[c][a]) && (c == b || o.less[c][b]);
                    for (int d = 0; d < o.n; d++) {
                        boolean over = (d == a || o.less[a][d]) && (d == b || o.less[b][d]);
                        boolean beneath = (d == a || o.less[d][a]) && (d == b || o.less[d][b]);
                        least &= !over || d == c || o.less[c][d];
                        greatest &= !beneath || d == c || o.less[d][c];
                    }
                    join |= least;
                    meet |= greatest;
                }
                if (!join || !meet) {
                    return false;
                }
            }
        }
        return true;
    }

    private static boolean levelled(Plain o) {
        for (int a = 0; a < o.n; a++) {
            for (int b = 0; b < o.n; b++) {
                if (o.covers(b, a) && depth(o, b, 0) != depth(o, a, 0) + 1) {
                    return false;
                }
            }
        }
        return true;
    }

    private static int depth(Plain o, int thing, int what) {
        int most = 0;
        for (int set = 1; set < 1 << o.n; set++) {
            if (in(set, thing) && o.isChain(set)) {
                int[] climb = o.climb(set);
                if (climb[what == 0 ? climb.length - 1 : 0] == thing) {
                    most = Math.max(most, climb.length);
                }
            }
        }
        return most;
    }

    int chain(int slot, int k) {
        Plain o = plain(slot);
        if (o == null || k < 0) {
            return -2;
        }
        int[] best = {};
        for (int set = 1; set < 1 << o.n; set++) {
            if (o.isChain(set)) {
                int[] climb = o.climb(set);
                if (climb.length > best.length || climb.length == best.length && Arrays.compare(climb, best) < 0) {
                    best = climb;
                }
            }
        }
        return k < best.length ? best[k] : NONE;
    }

    int anti(int slot) {
        Plain o = plain(slot);
        if (o == null) {
            return -2;
        }
        int best = 0;
        for (int set = (1 << o.n) - 1; set > 0; set--) {
            if (o.isAnti(set) && Integer.bitCount(set) >= Integer.bitCount(best)) {
                best = set;
            }
        }
        return best;
    }

    int part(int slot, int thing) {
        Plain o = plain(slot);
        if (o == null || thing < 0 || thing >= o.n) {
            return -2;
        }
        for (int most = 1; most <= o.n; most++) {
            int[] way = new int[o.n];
            if (ways(o, way, 0, 0, most)) {
                return way[thing];
            }
        }
        throw new IllegalStateException();
    }

    private static boolean ways(Plain o, int[] way, int at, int begun, int most) {
        if (at == o.n) {
            return true;
        }
        for (int c = 0; c < most && c <= begun; c++) {
            boolean fits = true;
            for (int x = 0; x < at; x++) {
                fits &= way[x] != c || !o.free(x, at);
            }
            way[at] = c;
            if (fits && ways(o, way, at + 1, Math.max(begun, c + 1), most)) {
                return true;
            }
        }
        return false;
    }

    int lines(int slot) {
        Plain o = plain(slot);
        return o == null ? -2 : o.lines().size();
    }

    int line(int slot, int k, int i) {
        Plain o = plain(slot);
        if (o == null || k < 0 || i < 0 || i >= o.n) {
            return -2;
        }
        return k < o.lines().size() ? o.lines().get(k)[i] : NONE;
    }

    private static boolean rowOk(Plain o, int row) {
        return o != null && row >= 0 && row < o.rows.size();
    }

    int rank(int slot, int row) {
        Plain o = plain(slot);
        if (!rowOk(o, row)) {
            return -2;
        }
        for (int k = 0; k < o.lines().size(); k++) {
            if (Arrays.equals(o.lines().get(k), o.rows.get(row))) {
                return k;
            }
        }
        return NONE;
    }

    int deep(int slot, int thing, int what) {
        Plain o = plain(slot);
        if (o == null || thing < 0 || thing >= o.n || what < 0 || what > 1) {
            return -2;
        }
        return depth(o, thing, what);
    }

    int through(int slot, int set) {
        Plain o = plain(slot);
        if (o == null || set < 0 || set >= 1 << o.n) {
            return -2;
        }
        int found = 0;
        for (int[] line : o.lines()) {
            int begun = 0;
            for (int i = 0; i < Integer.bitCount(set); i++) {
                begun |= 1 << line[i];
            }
            found += begun == set ? 1 : 0;
        }
        return found;
    }

    int before(int slot, int a, int b) {
        Plain o = plain(slot);
        if (o == null || a < 0 || a >= o.n || b < 0 || b >= o.n) {
            return -2;
        }
        return aheadCount(o, a, b);
    }

    private static int aheadCount(Plain o, int a, int b) {
        int found = 0;
        for (int[] line : o.lines()) {
            found += where(line, a) < where(line, b) ? 1 : 0;
        }
        return found;
    }

    int at(int slot, int thing, int i) {
        Plain o = plain(slot);
        if (o == null || thing < 0 || thing >= o.n || i < 0 || i >= o.n) {
            return -2;
        }
        int found = 0;
        for (int[] line : o.lines()) {
            found += line[i] == thing ? 1 : 0;
        }
        return found;
    }

    int mean(int slot, int thing, int what) {
        Plain o = plain(slot);
        if (o == null || thing < 0 || thing >= o.n || what < 0 || what > 1) {
            return -2;
        }
        long sum = 0;
        for (int[] line : o.lines()) {
            sum += where(line, thing);
        }
        java.math.BigInteger up = java.math.BigInteger.valueOf(sum);
        java.math.BigInteger down = java.math.BigInteger.valueOf(o.lines().size());
        java.math.BigInteger common = up.gcd(down);
        return (what == 0 ? up : down).divide(common).intValue();
    }

    int balance(int slot, int what) {
        Plain o = plain(slot);
        if (o == null || what < 0 || what > 1) {
            return -2;
        }
        int[] best = null;
        for (int a = 0; a < o.n; a++) {
            for (int b = a + 1; b < o.n; b++) {
                if (o.free(a, b)) {
                    int many = aheadCount(o, a, b);
                    int off = Math.abs(2 * many - o.lines().size());
                    if (best == null || off < best[0]) {
                        best = new int[] {off, 10 * a + b, many};
                    }
                }
            }
        }
        return best == null ? NONE : best[what + 1];
    }

    private static int[] jumpLine(Plain o, int most) {
        int[] best = null;
        for (int[] line : o.lines()) {
            if (best == null || (most == 0 ? o.jumps(line) < o.jumps(best) : o.jumps(line) > o.jumps(best))) {
                best = line;
            }
        }
        return best;
    }

    int jumps(int slot, int most) {
        Plain o = plain(slot);
        return o == null || most < 0 || most > 1 ? -2 : o.jumps(jumpLine(o, most));
    }

    int jumper(int slot, int most, int i) {
        Plain o = plain(slot);
        return o == null || most < 0 || most > 1 || i < 0 || i >= o.n ? -2 : jumpLine(o, most)[i];
    }

    int jumpsOf(int slot, int row) {
        Plain o = plain(slot);
        return rowOk(o, row) ? o.jumps(o.rows.get(row)) : -2;
    }

    int critical(int slot, int k) {
        Plain o = plain(slot);
        if (o == null || k < -1) {
            return -2;
        }
        List<int[]> twos = o.criticals();
        if (k == -1) {
            return twos.size();
        }
        return k < twos.size() ? 10 * twos.get(k)[0] + twos.get(k)[1] : NONE;
    }

    int reversed(int slot, int row) {
        Plain o = plain(slot);
        if (!rowOk(o, row)) {
            return -2;
        }
        int found = 0;
        for (int[] two : o.criticals()) {
            found += turns(o.rows.get(row), two) ? 1 : 0;
        }
        return found;
    }

    private static boolean turns(int[] row, int[] two) {
        return where(row, two[0]) > where(row, two[1]);
    }

    int rowsAre(int slot, int what) {
        Plain o = plain(slot);
        if (o == null || what < 0 || what > 2) {
            return -2;
        }
        boolean lines = true;
        boolean unlike = true;
        for (int i = 0; i < o.rows.size(); i++) {
            lines &= o.isLine(o.rows.get(i));
            for (int j = 0; j < i; j++) {
                unlike &= !Arrays.equals(o.rows.get(i), o.rows.get(j));
            }
        }
        boolean realizer = lines && !o.rows.isEmpty();
        for (int a = 0; a < o.n; a++) {
            for (int b = 0; b < o.n; b++) {
                if (o.free(a, b)) {
                    boolean some = false;
                    for (int[] row : o.rows) {
                        some |= where(row, a) < where(row, b);
                    }
                    realizer &= some;
                }
            }
        }
        return (what == 0 ? lines : what == 1 ? realizer : unlike) ? 1 : 0;
    }

    int ahead(int slot, int thing) {
        Plain o = plain(slot);
        if (o == null || thing < 0 || thing >= o.n) {
            return -2;
        }
        int set = 0;
        for (int x = 0; x < o.n; x++) {
            boolean always = x != thing;
            for (int[] row : o.rows) {
                always &= where(row, x) < where(row, thing);
            }
            set |= always ? 1 << x : 0;
        }
        return set;
    }

    /** The search, by the document's words; found() has what was put where. */
    private static final class Hunt {
        final Plain o;
        final List<int[]> twos;
        final int t;
        final int most;
        int spent;
        boolean tooLong;
        final List<List<int[]>> places = new ArrayList<>();

        Hunt(Plain o, int t, int most) {
            this.o = o;
            this.t = t;
            this.most = most;
            twos = o.criticals();
            for (int p = 0; p < t; p++) {
                places.add(new ArrayList<>());
            }
        }

        boolean find(int two) {
            if (two == twos.size()) {
                return true;
            }
            for (int p = 0; p < t && (p == 0 || !places.get(p - 1).isEmpty()); p++) {
                spent++;
                if (spent > most) {
                    tooLong = true;
                    return false;
                }
                places.get(p).add(twos.get(two));
                if (sound(places.get(p))) {
                    if (find(two + 1)) {
                        return true;
                    }
                    if (tooLong) {
                        return false;
                    }
                }
                places.get(p).remove(places.get(p).size() - 1);
            }
            return false;
        }

        private boolean sound(List<int[]> put) {
            boolean[][] goes = copy(o.less);
            for (int[] two : put) {
                goes[two[1]][two[0]] = true;
            }
            close(goes);
            for (int x = 0; x < o.n; x++) {
                if (goes[x][x]) {
                    return false;
                }
            }
            return true;
        }

        int[] row(int p) {
            for (int[] line : o.lines()) {
                boolean all = true;
                for (int[] two : places.get(p)) {
                    all &= turns(line, two);
                }
                if (all) {
                    return line;
                }
            }
            throw new IllegalStateException();
        }
    }

    int realizes(int slot, int t, int tries) {
        Plain o = plain(slot);
        if (o == null || t < 1 || t > 4 || tries < 1 || tries > 100000) {
            return -2;
        }
        Hunt hunt = new Hunt(o, t, tries);
        boolean found = hunt.find(0);
        if (!found) {
            return hunt.tooLong ? -3 : NONE;
        }
        List<int[]> rows = new ArrayList<>();
        for (int p = 0; p < t; p++) {
            rows.add(hunt.row(p));
        }
        actIfOtherwise(slot, new Plain(o.n, o.less, rows));
        return hunt.spent;
    }

    int dimension(int slot, int tries) {
        Plain o = plain(slot);
        if (o == null || tries < 1 || tries > 100000) {
            return -2;
        }
        for (int t = 1; t <= 4; t++) {
            Hunt hunt = new Hunt(o, t, tries);
            if (hunt.find(0)) {
                return t;
            }
            if (hunt.tooLong) {
                return -3;
            }
        }
        return NONE;
    }

    int row(int slot, int row, int i) {
        Plain o = plain(slot);
        return !rowOk(o, row) || i < 0 || i >= o.n ? -2 : o.rows.get(row)[i];
    }

    int adds(int slot, int k) {
        Plain o = plain(slot);
        if (o == null || k < 0) {
            return -2;
        }
        if (k >= o.lines().size()) {
            return NONE;
        }
        if (o.rows.size() == 6) {
            return -5;
        }
        List<int[]> rows = new ArrayList<>(o.rows);
        rows.add(o.lines().get(k));
        act(slot, new Plain(o.n, o.less, rows));
        return rows.size();
    }

    int takes(int slot, int row) {
        Plain o = plain(slot);
        if (!rowOk(o, row)) {
            return -2;
        }
        List<int[]> rows = new ArrayList<>(o.rows);
        rows.remove(row);
        act(slot, new Plain(o.n, o.less, rows));
        return rows.size();
    }

    int puts(int slot, int a, int b) {
        Plain o = plain(slot);
        if (o == null || a < 0 || a >= o.n || b < 0 || b >= o.n) {
            return -2;
        }
        if (a == b || o.less[b][a]) {
            return -6;
        }
        if (o.less[a][b]) {
            return 0;
        }
        boolean[][] less = copy(o.less);
        less[a][b] = true;
        close(less);
        Plain now = new Plain(o.n, less, o.rows);
        act(slot, now);
        return now.pairs() - o.pairs();
    }

    int cuts(int slot, int a, int b) {
        Plain o = plain(slot);
        if (o == null || a < 0 || a >= o.n || b < 0 || b >= o.n) {
            return -2;
        }
        if (!o.covers(b, a)) {
            return -6;
        }
        boolean[][] less = copy(o.less);
        less[a][b] = false;
        Plain now = new Plain(o.n, less, o.rows);
        act(slot, now);
        return now.pairs();
    }

    int flip(int slot) {
        Plain o = plain(slot);
        if (o == null) {
            return -2;
        }
        boolean[][] less = new boolean[o.n][o.n];
        for (int a = 0; a < o.n; a++) {
            for (int b = 0; b < o.n; b++) {
                less[a][b] = o.less[b][a];
            }
        }
        List<int[]> rows = new ArrayList<>();
        for (int[] row : o.rows) {
            int[] back = new int[o.n];
            for (int i = 0; i < o.n; i++) {
                back[i] = row[o.n - 1 - i];
            }
            rows.add(back);
        }
        actIfOtherwise(slot, new Plain(o.n, less, rows));
        return height(o);
    }

    int without(int slot, int thing) {
        Plain o = plain(slot);
        if (o == null || thing < 0 || thing >= o.n) {
            return -2;
        }
        if (o.n == 1) {
            return -6;
        }
        boolean[][] less = new boolean[o.n - 1][o.n - 1];
        for (int a = 0; a < o.n - 1; a++) {
            for (int b = 0; b < o.n - 1; b++) {
                less[a][b] = o.less[a < thing ? a : a + 1][b < thing ? b : b + 1];
            }
        }
        List<int[]> rows = new ArrayList<>();
        for (int[] row : o.rows) {
            rows.add(Arrays.stream(row).filter(x -> x != thing).map(x -> x > thing ? x - 1 : x).toArray());
        }
        act(slot, new Plain(o.n - 1, less, rows));
        return o.n - 1;
    }

    int joins(int slot, int other, int above, int to) {
        Plain one = plain(slot);
        Plain two = plain(other);
        if (one == null || two == null || above < 0 || above > 1 || !slotOk(to)) {
            return -2;
        }
        int n = one.n + two.n;
        if (n > 8) {
            return -5;
        }
        boolean[][] less = new boolean[n][n];
        for (int a = 0; a < n; a++) {
            for (int b = 0; b < n; b++) {
                if (a < one.n && b < one.n) {
                    less[a][b] = one.less[a][b];
                } else if (a >= one.n && b >= one.n) {
                    less[a][b] = two.less[a - one.n][b - one.n];
                } else {
                    less[a][b] = above == 1 && a < b;
                }
            }
        }
        actIfOtherwise(to, new Plain(n, less, new ArrayList<>()));
        return n;
    }

    private static int namings(Plain one, Plain two) {
        int found = 0;
        for (int[] name : permutations(one.n)) {
            boolean same = true;
            for (int a = 0; a < one.n && same; a++) {
                for (int b = 0; b < one.n && same; b++) {
                    same = one.less[a][b] == two.less[name[a]][name[b]];
                }
            }
            found += same ? 1 : 0;
        }
        return found;
    }

    int alike(int slot, int other) {
        Plain one = plain(slot);
        Plain two = plain(other);
        if (one == null || two == null) {
            return -2;
        }
        return one.n == two.n && namings(one, two) > 0 ? 1 : 0;
    }

    int selves(int slot) {
        Plain o = plain(slot);
        return o == null ? -2 : namings(o, o);
    }

    int drops(int slot) {
        if (!slotOk(slot)) {
            return -2;
        }
        if (slots[slot] == null) {
            return 0;
        }
        act(slot, null);
        return 1;
    }

    int undo() {
        if (past.isEmpty()) {
            return NONE;
        }
        slots = past.remove(past.size() - 1);
        return past.size();
    }

    int tell(int slot) {
        Plain o = plain(slot);
        if (o == null) {
            return -2;
        }
        List<String> covers = new ArrayList<>();
        for (int a = 0; a < o.n; a++) {
            for (int b = 0; b < o.n; b++) {
                if (o.covers(b, a)) {
                    covers.add(a + "<" + b);
                }
            }
        }
        out = "order " + o.n + (covers.isEmpty() ? "" : ":" + String.join(",", covers)) + ";";
        for (int[] row : o.rows) {
            out += "row ";
            for (int x : row) {
                out += x;
            }
            out += ";";
        }
        return out.length();
    }

    int octet(int i) {
        return i < 0 || i >= out.length() ? NONE : out.charAt(i);
    }
}
