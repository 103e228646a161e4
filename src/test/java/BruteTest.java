import java.nio.charset.StandardCharsets;
import java.util.ArrayList;
import java.util.List;
import java.util.Random;

/** Small scenes made by a fixed seed; what is due comes from trying all rows, sets and ways one by one. */
public final class BruteTest {
    private static final int NONE = TiedViews.NONE, BAD = TiedViews.BAD;
    private static final String[] SORTS = {"view", "mod", "held", "choice"};
    private static int wrong = 0;
    private static long checks = 0;

    private final Random random;
    private final int p;
    private final TiedViews x;
    private final List<int[]> eyes = new ArrayList<>();      // sort, size, column
    private final List<int[]> ties = new ArrayList<>();      // a, b, rows
    private final List<int[][][]> tables = new ArrayList<>(); // of a, of b
    private final List<int[]> bars = new ArrayList<>();
    private final List<int[]> rules = new ArrayList<>();
    private final int[][] readings = new int[8][];
    private final int[] sets = new int[8];
    private int[] now = new int[24];
    private int columns = 0;
    private final String name;

    private BruteTest(long seed) {
        random = new Random(seed);
        p = new int[] {2, 3, 5, 7}[random.nextInt(4)];
        x = new TiedViews(p);
        name = "seed " + seed + " prime " + p;
    }

    private void due(String what, long got, long want) {
        checks++;
        if (got != want) {
            wrong++;
            if (wrong < 40) {
                System.out.println(name + ": " + what + " answered " + got + ", due is " + want);
            }
        }
    }

    private void feed(String text) {
        byte[] bytes = text.getBytes(StandardCharsets.ISO_8859_1);
        for (int i = 0; i < bytes.length; i += 8) {
            int n = Math.min(8, bytes.length - i);
            long w = random.nextLong();
            for (int k = 0; k < n; k++) {
                w = w << 8 | bytes[i + k] & 255;
            }
            x.feed(w, n);
        }
    }

    // ---- telling

    private void tell() {
        StringBuilder text = new StringBuilder();
        int mostColumns = p == 2 ? 10 : p == 3 ? 7 : 5;
        int more = 1 + random.nextInt(4);
        for (int i = 0; i < more && eyes.size() < 8; i++) {
            int sort = random.nextInt(4);
            int size = 1 + random.nextInt(sort == 3 ? 4 : 3);
            if (sort != 3 && columns + size > mostColumns) {
                continue;
            }
            text.append("eye ").append(SORTS[sort]).append(' ').append(size).append(";");
            sets[eyes.size()] = (1 << size) - 1;
            eyes.add(new int[] {sort, size, sort == 3 ? NONE : columns});
            columns += sort == 3 ? 0 : size;
        }
        tellTies(text);
        tellBars(text);
        feed(text.toString());
        due("read '" + text + "'", x.read(), eyes.size());
    }

    private List<Integer> of(boolean choice) {
        List<Integer> found = new ArrayList<>();
        for (int i = 0; i < eyes.size(); i++) {
            if (eyes.get(i)[0] == 3 == choice) {
                found.add(i);
            }
        }
        return found;
    }

    private void tellTies(StringBuilder text) {
        List<Integer> linear = of(false);
        for (int i = random.nextInt(4); i > 0 && linear.size() > 1 && ties.size() < 10 && text.length() < 380; i--) {
            int a = linear.get(random.nextInt(linear.size()));
            int b = linear.get(random.nextInt(linear.size()));
            if (a == b) {
                continue;
            }
            int r = 1 + random.nextInt(3);
            int[][] ta = table(r, eyes.get(a)[1]);
            int[][] tb = table(r, eyes.get(b)[1]);
            ties.add(new int[] {a, b, r});
            tables.add(new int[][][] {ta, tb});
            text.append("tie ").append(a).append(' ').append(b).append('\n').append(r).append(" by ").append(told(ta))
                .append(" and ").append(told(tb)).append(";");
        }
    }

    private int[][] table(int rows, int width) {
        int[][] t = new int[rows][width];
        boolean sparse = random.nextBoolean();
        for (int[] row : t) {
            for (int k = 0; k < width; k++) {
                row[k] = sparse && random.nextBoolean() ? 0 : random.nextInt(p);
            }
        }
        return t;
    }

    private static String told(int[][] table) {
        StringBuilder s = new StringBuilder();
        for (int r = 0; r < table.length; r++) {
            s.append(r > 0 ? "," : "");
            for (int k = 0; k < table[r].length; k++) {
                s.append(k > 0 ? " " : "").append(table[r][k]);
            }
        }
        return s.toString();
    }

    private void tellBars(StringBuilder text) {
        List<Integer> choices = of(true);
        for (int i = random.nextInt(8); i > 0 && choices.size() > 1 && bars.size() < 30 && text.length() < 480; i--) {
            int a = choices.get(random.nextInt(choices.size()));
            int b = choices.get(random.nextInt(choices.size()));
            if (a != b) {
                int v = random.nextInt(eyes.get(a)[1]);
                int w = random.nextInt(eyes.get(b)[1]);
                bars.add(new int[] {a, v, b, w});
                text.append("bar ").append(a).append(' ').append(v).append(' ').append(b).append(' ').append(w).append(";");
            }
        }
    }

    // ---- what agrees

    private int rows() {
        int n = 1;
        for (int i = 0; i < columns; i++) {
            n *= p;
        }
        return n;
    }

    private int[] row(int code) {
        int[] row = new int[columns];
        for (int i = 0; i < columns; i++) {
            row[i] = code % p;
            code /= p;
        }
        return row;
    }

    private int[] tells(int[] row, int exceptTie) {
        int[] tells = new int[30];
        int line = 0;
        for (int t = 0; t < ties.size(); t++) {
            int[] tie = ties.get(t);
            for (int r = 0; r < tie[2]; r++) {
                int sum = 0;
                for (int side = 0; side < 2; side++) {
                    int[] eye = eyes.get(tie[side]);
                    for (int k = 0; k < eye[1]; k++) {
                        sum += (side == 0 ? 1 : p - 1) * tables.get(t)[side][r][k] * row[eye[2] + k];
                    }
                }
                if (t != exceptTie) {
                    tells[line] = sum % p;
                }
                line++;
            }
        }
        return tells;
    }

    private int lines() {
        int n = 0;
        for (int[] tie : ties) {
            n += tie[2];
        }
        return n;
    }

    private boolean agrees(int[] row, int exceptTie) {
        for (int t : tells(row, exceptTie)) {
            if (t != 0) {
                return false;
            }
        }
        return true;
    }

    private int free(int exceptTie) {
        int agreeing = 0;
        for (int code = 0; code < rows(); code++) {
            agreeing += agrees(row(code), exceptTie) ? 1 : 0;
        }
        int free = 0;
        for (int n = 1; n < agreeing; n *= p) {
            free++;
        }
        return free;
    }

    private boolean has(int[] row, int dropped) {
        for (int i = 0; i < eyes.size(); i++) {
            for (int k = 0; readings[i] != null && (dropped >> i & 1) == 0 && k < readings[i].length; k++) {
                if (row[eyes.get(i)[2] + k] != readings[i][k]) {
                    return false;
                }
            }
        }
        return true;
    }

    private void checkAgreement() {
        List<int[]> agreeing = new ArrayList<>();
        for (int code = 0; code < rows(); code++) {
            if (agrees(row(code), -1)) {
                agreeing.add(row(code));
            }
        }
        int free = free(-1);
        due("all(0)", x.all(0), free);
        due("all(1)", x.all(1), columns);
        due("all(2)", x.all(2), lines());
        due("all(3)", x.all(3), columns - free);
        due("all(4)", x.all(4), lines() - columns + free);
        // A column is free if it can be other than 0 where all later ones are 0.
        List<Integer> frees = new ArrayList<>();
        for (int c = 0; c < columns; c++) {
            for (int[] row : agreeing) {
                boolean last = row[c] != 0;
                for (int d = c + 1; d < columns; d++) {
                    last &= row[d] == 0;
                }
                if (last) {
                    frees.add(c);
                    break;
                }
            }
        }
        due("free columns", frees.size(), free);
        for (int k = 0; k <= free && k < 6; k++) {
            int[] want = null;
            for (int[] row : agreeing) {
                boolean fits = k < free;
                for (int i = 0; i < frees.size() && fits; i++) {
                    fits = row[frees.get(i)] == (i == k ? 1 : 0);
                }
                want = fits ? row : want;
            }
            for (int c = 0; c < columns; c++) {
                due("basis " + k + " " + c, x.basis(k, c), want == null ? NONE : want[c]);
            }
        }
        for (int t = 0; t < ties.size(); t++) {
            due("cost " + t, x.cost(t), free(t) - free);
        }
        due("cost", x.cost(ties.size()), BAD);
        checkReadings(agreeing);
    }

    private void changeReadings() {
        for (int i = 0; i < eyes.size(); i++) {
            int[] eye = eyes.get(i);
            if (eye[0] == 3 || random.nextInt(3) == 0) {
                continue;
            }
            if (random.nextInt(4) == 0) {
                due("unread " + i, x.unread(i), readings[i] == null ? 0 : 1);
                readings[i] = null;
                continue;
            }
            readings[i] = new int[eye[1]];
            x.sheet(3, 0, 5);
            for (int k = 0; k < eye[1]; k++) {
                readings[i][k] = random.nextInt(3) == 0 ? random.nextInt(p) : 0;
                x.set(3, 2 + k, readings[i][k]);
            }
            due("reading " + i, x.reading(i, 3, 2), 1);
        }
    }

    private void checkReadings(List<int[]> agreeing) {
        List<int[]> fitting = new ArrayList<>();
        for (int[] row : agreeing) {
            if (has(row, 0)) {
                fitting.add(row);
            }
        }
        due("fill(-1)", x.fill(-1), fitting.isEmpty() ? 0 : 1);
        boolean[] free = new boolean[columns];
        for (int c = 0; c < columns; c++) {
            for (int[] row : fitting) {
                for (int[] other : fitting.subList(0, 1)) {
                    boolean last = row[c] != other[c];
                    for (int d = c + 1; d < columns; d++) {
                        last &= row[d] == other[d];
                    }
                    free[c] |= last;
                }
            }
        }
        int[] fill = null;
        for (int[] row : fitting) {
            boolean nought = true;
            for (int c = 0; c < columns; c++) {
                nought &= !free[c] || row[c] == 0;
            }
            fill = nought ? row : fill;
        }
        for (int c = 0; c < columns; c++) {
            due("fill " + c, x.fill(c), fill == null ? NONE : fill[c]);
            boolean same = !fitting.isEmpty();
            for (int[] row : fitting) {
                same &= row[c] == fitting.get(0)[c];
            }
            due("fixed " + c, x.fixed(c), same ? fitting.get(0)[c] : NONE);
        }
        due("fewest", x.fewest(), leastDrop(agreeing));
        due("count(4)", x.count(4), Integer.bitCount(withReading()));
    }

    private int withReading() {
        int with = 0;
        for (int i = 0; i < 8; i++) {
            with |= readings[i] == null ? 0 : 1 << i;
        }
        return with;
    }

    private int leastDrop(List<int[]> agreeing) {
        int best = -1;
        for (int set = 0; set < 256; set++) {
            if ((set & ~withReading()) != 0 || best >= 0 && Integer.bitCount(set) >= Integer.bitCount(best)) {
                continue;
            }
            for (int[] row : agreeing) {
                if (has(row, set)) {
                    best = set;
                    break;
                }
            }
        }
        return best;
    }

    // ---- asks on lines, as the document tells the steps

    private void checkAsks() {
        int n = lines();
        int[] asks = new int[n];
        x.sheet(5, 1, n + 2);
        boolean meetable = random.nextBoolean();
        int[] told = tells(row(random.nextInt(rows())), -1);
        for (int i = 0; i < n; i++) {
            asks[i] = meetable ? told[i] : random.nextInt(p);
            x.set(5, 1 + i, asks[i]);
        }
        boolean met = false;
        for (int code = 0; code < rows() && !met; code++) {
            int[] tells = tells(row(code), -1);
            met = true;
            for (int i = 0; i < n; i++) {
                met &= tells[i] == asks[i];
            }
        }
        due("met", x.met(5, 1, -1), met ? 1 : 0);
        int[] proof = proof(asks);
        due("met and proof", met ? 1 : 0, proof == null ? 1 : 0);
        for (int k = 0; k < n; k++) {
            due("proof " + k, x.met(5, 1, k), proof == null ? NONE : proof[k]);
        }
        due("proof", x.met(5, 1, n), BAD);
    }

    private int[] proof(int[] asks) {
        int n = asks.length;
        int w = columns + 1 + n;
        int[][] m = new int[n][w];
        for (int c = 0; c < columns; c++) {
            int[] unit = new int[columns];
            unit[c] = 1;
            int[] tells = tells(unit, -1);
            for (int i = 0; i < n; i++) {
                m[i][c] = tells[i];
            }
        }
        boolean[] leader = new boolean[n];
        for (int i = 0; i < n; i++) {
            m[i][columns] = asks[i];
            m[i][columns + 1 + i] = 1;
        }
        for (int c = 0; c < columns; c++) {
            for (int i = 0; i < n; i++) {
                if (!leader[i] && m[i][c] != 0) {
                    leader[i] = true;
                    int old = m[i][c];
                    int f = 1;
                    while (f * old % p != 1) {
                        f++;
                    }
                    for (int k = 0; k < w; k++) {
                        m[i][k] = m[i][k] * f % p;
                    }
                    for (int j = 0; j < n; j++) {
                        int often = m[j][c];
                        for (int k = 0; k < w && j != i; k++) {
                            m[j][k] = Math.floorMod(m[j][k] - often * m[i][k], p);
                        }
                    }
                    break;
                }
            }
        }
        for (int i = 0; i < n; i++) {
            boolean nought = m[i][columns] != 0;
            for (int c = 0; c < columns; c++) {
                nought &= m[i][c] == 0;
            }
            if (nought) {
                return java.util.Arrays.copyOfRange(m[i], columns + 1, w);
            }
        }
        return null;
    }

    // ---- hearsay

    private void tellRules() {
        for (int i = random.nextInt(6); i > 0; i--) {
            int to = random.nextInt(9) - 1;
            int from = random.nextInt(9) - 1;
            int tie = random.nextInt(ties.size() + 2) - 1;
            boolean bad = to < 0 || to >= eyes.size() || eyes.get(to)[0] == 3 || from < 0 || from >= eyes.size()
                || eyes.get(from)[0] == 3 || tie < 0 || tie >= ties.size();
            bad = bad || ties.get(tie)[0] != from && ties.get(tie)[1] != from || ties.get(tie)[2] != eyes.get(to)[1];
            int want = bad ? BAD : rules.size() >= 16 ? TiedViews.FULL : rules.size() + 1;
            if (want > 0) {
                rules.add(new int[] {to, from, tie});
            }
            due("hear", x.hear(to, from, tie), want);
        }
        for (int i : of(false)) {
            int k = random.nextInt(eyes.get(i)[1]);
            int v = random.nextInt(p);
            due("now", x.now(i, k, v), now[eyes.get(i)[2] + k]);
            now[eyes.get(i)[2] + k] = v;
        }
    }

    private int[] ticked(int[] row) {
        int[] next = row.clone();
        for (int[] rule : rules) {
            int[] to = eyes.get(rule[0]);
            int[] from = eyes.get(rule[1]);
            int side = ties.get(rule[2])[0] == rule[1] ? 0 : 1;
            for (int r = 0; r < to[1] && to[0] != 2; r++) {
                int sum = 0;
                for (int k = 0; k < from[1]; k++) {
                    sum += tables.get(rule[2])[side][r][k] * row[from[2] + k];
                }
                next[to[2] + r] = sum % p;
            }
        }
        return next;
    }

    private void checkHearsay() {
        List<int[]> seen = new ArrayList<>();
        int[] row = now.clone();
        int mu = NONE;
        int lambda = NONE;
        for (int t = 0; t <= 300 && mu < 0; t++) {
            for (int s = 0; s < t && mu < 0; s++) {
                if (java.util.Arrays.equals(seen.get(s), row)) {
                    mu = s;
                    lambda = t - s;
                }
            }
            seen.add(row);
            row = ticked(row);
        }
        due("settles 0", x.settles(0), mu);
        due("settles 1", x.settles(1), lambda);
        checkNow();
        int n = 1 + random.nextInt(random.nextBoolean() ? 3 : 100);
        for (int i = 0; i < n; i++) {
            now = ticked(now);
        }
        int notNought = 0;
        for (int v : now) {
            notNought += v != 0 ? 1 : 0;
        }
        due("tick " + n, x.tick(n), notNought);
        checkNow();
    }

    private void checkNow() {
        for (int i : of(false)) {
            for (int k = 0; k < eyes.get(i)[1]; k++) {
                due("says " + i + " " + k, x.says(i, k), now[eyes.get(i)[2] + k]);
            }
        }
    }

    // ---- choices

    private boolean barred(int a, int v, int b, int w) {
        for (int[] bar : bars) {
            if (bar[0] == a && bar[1] == v && bar[2] == b && bar[3] == w
                || bar[0] == b && bar[1] == w && bar[2] == a && bar[3] == v) {
                return true;
            }
        }
        return false;
    }

    private void checkFills() {
        List<Integer> choices = of(true);
        int ways = 0;
        int[] first = null;
        for (int code = 0; code < 1 << 2 * choices.size(); code++) {
            int[] value = new int[8];
            boolean fine = true;
            for (int i = 0; i < choices.size() && fine; i++) {
                int a = choices.get(i);
                value[a] = code >> 2 * (choices.size() - 1 - i) & 3;
                fine = (sets[a] >> value[a] & 1) == 1;
                for (int j = 0; j < i && fine; j++) {
                    fine = !barred(a, value[a], choices.get(j), value[choices.get(j)]);
                }
            }
            if (fine) {
                ways++;
                first = first == null ? value : first;
            }
        }
        due("fills", x.fills(-1), ways);
        for (int i = 0; i < eyes.size(); i++) {
            due("fills " + i, x.fills(i), eyes.get(i)[0] != 3 ? BAD : first == null ? NONE : first[i]);
            due("set " + i, x.eye(i, 5), eyes.get(i)[0] != 3 ? NONE : sets[i]);
        }
    }

    private void checkChoices() {
        for (int i : of(true)) {
            if (random.nextBoolean()) {
                int set = 1 + random.nextInt((1 << eyes.get(i)[1]) - 1);
                due("choose " + i, x.choose(i, set), sets[i]);
                sets[i] = set;
            }
        }
        checkFills();
        if (random.nextInt(3) == 0) {
            return;
        }
        int gone = 0;
        for (boolean changed = true; changed;) {
            changed = false;
            for (int a : of(true)) {
                for (int v = 0; v < 4; v++) {
                    boolean goes = false;
                    for (int b : of(true)) {
                        boolean some = false;
                        for (int w = 0; w < 4; w++) {
                            some |= (sets[b] >> w & 1) == 1 && !barred(a, v, b, w);
                        }
                        goes |= !some;
                    }
                    if (goes && (sets[a] >> v & 1) == 1) {
                        sets[a] &= ~(1 << v);
                        gone++;
                        changed = true;
                    }
                }
            }
        }
        due("narrow", x.narrow(), gone);
        checkFills();
    }

    private void run() {
        // No more rounds than these: no object may be used for more than 512 calls.
        for (int round = 0; round < 2; round++) {
            tell();
            for (int i = 0; i < 2; i++) {
                changeReadings();
                checkAgreement();
                checkAsks();
                tellRules();
                checkHearsay();
                checkChoices();
            }
        }
        due("count(1)", x.count(1), eyes.size());
        due("count(2)", x.count(2), ties.size());
        due("count(3)", x.count(3), bars.size());
        due("count(5)", x.count(5), rules.size());
        due("count(6)", x.count(6), of(true).size());
    }

    public static void main(String[] args) {
        int seeds = args.length > 0 ? Integer.parseInt(args[0]) : 180;
        for (int seed = 0; seed < seeds; seed++) {
            new BruteTest(seed).run();
        }
        System.out.println("brute: " + checks + " checks, " + wrong + " wrong");
        if (wrong != 0) {
            System.exit(1);
        }
    }
}
