import java.util.ArrayList;
import java.util.List;
import java.util.Random;

/** Scenes as large as the document lets them be, against the document's steps taken word by word. */
public final class LargeTest {
    private static final int NONE = TiedViews.NONE;
    private static final int[] PRIMES = {2, 3, 5, 7};
    private static int wrong = 0;
    private static long checks = 0;

    private final Random random;
    private final int p;
    private TiedViews x;
    private final List<String> texts = new ArrayList<>();
    private final int[] size = new int[8];
    private final int[] column = new int[9];
    private final List<int[]> lines = new ArrayList<>();
    private final List<Integer> tieOf = new ArrayList<>();
    private final int[][] readings = new int[8][];
    private final String name;

    private LargeTest(int seed) {
        random = new Random(seed);
        p = PRIMES[seed % 4];
        x = new TiedViews(p);
        name = "seed " + seed;
    }

    private void due(String what, long got, long want) {
        checks++;
        if (got != want) {
            wrong++;
            System.out.println(name + ": " + what + " answered " + got + ", due is " + want);
        }
    }

    private void say(String text) {
        texts.add(text);
        due("read '" + text + "'", Edges.read(x, text), x.count(1));
    }

    /** What has been told, told to a new object, since none may be used for more than 512 calls. */
    private void renew() {
        x = new TiedViews(p);
        for (String text : texts) {
            Edges.read(x, text);
        }
    }

    private void tell(int rank) {
        for (int i = 0; i < 8; i++) {
            size[i] = random.nextInt(4) == 0 ? 1 + random.nextInt(3) : 3;
            column[i + 1] = column[i] + size[i];
            say("eye " + (i % 3 == 0 ? "view" : i % 3 == 1 ? "mod" : "held") + " " + size[i] + ";");
        }
        for (int t = 0; t < 10; t++) {
            int a = random.nextInt(8);
            int b = (a + 1 + random.nextInt(7)) % 8;
            int r = random.nextInt(4) == 0 ? 1 + random.nextInt(3) : 3;
            int[][] rows = new int[r][column[8]];
            String first = side(rows, a, 1, rank);
            String second = side(rows, b, p - 1, rank);
            for (int[] row : rows) {
                lines.add(row);
                tieOf.add(t);
            }
            say("tie " + a + " " + b + " " + r + " by " + first + " and " + second + ";");
        }
        due("columns", x.all(1), column[8]);
        due("lines", x.all(2), lines.size());
    }

    /** A table with seldom a number but 0, or rows like the first one, so that lines hang together. */
    private String side(int[][] rows, int eye, int times, int rank) {
        StringBuilder s = new StringBuilder();
        for (int r = 0; r < rows.length; r++) {
            s.append(r > 0 ? "," : "");
            for (int k = 0; k < size[eye]; k++) {
                int v = random.nextInt(rank) == 0 ? random.nextInt(p) : 0;
                rows[r][column[eye] + k] = times * v % p;
                s.append(k > 0 ? " " : "").append(v);
            }
        }
        return s.toString();
    }

    /** The lines in steps; leader[c] is the line that leads column c, or -1. */
    private int[] steps(int[][] m, int width) {
        int[] leader = new int[column[8]];
        boolean[] leads = new boolean[m.length];
        for (int c = 0; c < leader.length; c++) {
            leader[c] = -1;
            for (int i = 0; i < m.length && leader[c] < 0; i++) {
                leader[c] = !leads[i] && m[i][c] != 0 ? i : -1;
            }
            if (leader[c] < 0) {
                continue;
            }
            int[] lead = m[leader[c]];
            leads[leader[c]] = true;
            int f = 1;
            while (f * lead[c] % p != 1) {
                f++;
            }
            for (int k = 0; k < width; k++) {
                lead[k] = lead[k] * f % p;
            }
            for (int[] line : m) {
                for (int often = line[c]; line != lead && often > 0; often--) {
                    for (int k = 0; k < width; k++) {
                        line[k] = Math.floorMod(line[k] - lead[k], p);
                    }
                }
            }
        }
        return leader;
    }

    private static int led(int[] leader) {
        int n = 0;
        for (int l : leader) {
            n += l >= 0 ? 1 : 0;
        }
        return n;
    }

    private int[][] copied(int exceptTie, int extras, int more) {
        List<int[]> m = new ArrayList<>();
        for (int i = 0; i < lines.size(); i++) {
            if (tieOf.get(i) != exceptTie) {
                m.add(java.util.Arrays.copyOf(lines.get(i), column[8] + extras));
            }
        }
        for (int i = 0; i < more; i++) {
            m.add(new int[column[8] + extras]);
        }
        return m.toArray(new int[0][]);
    }

    private void checkBasis() {
        int[][] m = copied(-1, 0, 0);
        int[] leader = steps(m, column[8]);
        int free = column[8] - led(leader);
        due("free", x.all(0), free);
        due("leaders", x.all(3), led(leader));
        due("holes", x.all(4), lines.size() - led(leader));
        int k = 0;
        for (int c = 0; c < column[8]; c++) {
            if (leader[c] < 0) {
                renew();
                for (int d = 0; d < column[8]; d++) {
                    int want = leader[d] >= 0 ? (p - m[leader[d]][c]) % p : c == d ? 1 : 0;
                    due("basis " + k + " " + d, x.basis(k, d), want);
                }
                k++;
            }
        }
        due("no more", x.basis(k, 0), NONE);
        for (int t = 0; t < 10; t++) {
            due("cost " + t, x.cost(t), led(leader) - led(steps(copied(t, 0, 0), column[8])));
        }
    }

    private int[][] wanting(int dropped) {
        int more = 0;
        for (int i = 0; i < 8; i++) {
            more += readings[i] != null && (dropped >> i & 1) == 0 ? size[i] : 0;
        }
        int[][] m = copied(-1, 1, more);
        int at = lines.size();
        for (int i = 0; i < 8; i++) {
            for (int k = 0; readings[i] != null && (dropped >> i & 1) == 0 && k < size[i]; k++) {
                m[at][column[i] + k] = 1;
                m[at][column[8]] = readings[i][k];
                at++;
            }
        }
        return m;
    }

    private boolean fit(int[][] m) {
        for (int[] line : m) {
            boolean nought = true;
            for (int c = 0; c < column[8]; c++) {
                nought &= line[c] == 0;
            }
            if (nought && line[column[8]] != 0) {
                return false;
            }
        }
        return true;
    }

    private void checkReadings() {
        int[][] m = wanting(0);
        int[] leader = steps(m, column[8] + 1);
        boolean fit = fit(m);
        due("fit", x.fill(-1), fit ? 1 : 0);
        for (int c = 0; c < column[8]; c++) {
            due("fill " + c, x.fill(c), !fit ? NONE : leader[c] < 0 ? 0 : m[leader[c]][column[8]]);
            boolean fixed = fit && leader[c] >= 0;
            for (int d = 0; d < column[8] && fixed; d++) {
                fixed = leader[d] >= 0 || m[leader[c]][d] == 0;
            }
            due("fixed " + c, x.fixed(c), fixed ? m[leader[c]][column[8]] : NONE);
        }
        int with = 0;
        for (int i = 0; i < 8; i++) {
            with |= readings[i] != null ? 1 << i : 0;
        }
        int best = -1;
        for (int set = 0; set < 256; set++) {
            if ((set & ~with) == 0 && (best < 0 || Integer.bitCount(set) < Integer.bitCount(best))) {
                int[][] w = wanting(set);
                steps(w, column[8] + 1);
                best = fit(w) ? set : best;
            }
        }
        due("fewest", x.fewest(), best);
    }

    private void takeReadings(int often) {
        int[] row = agreeing();
        x.sheet(0, 0, 3);
        for (int i = 0; i < 8; i++) {
            readings[i] = null;
            x.unread(i);
            if (random.nextInt(5) > 0) {
                readings[i] = new int[size[i]];
                for (int k = 0; k < size[i]; k++) {
                    readings[i][k] = random.nextInt(often) == 0 ? random.nextInt(p) : row[column[i] + k];
                    x.set(0, k, readings[i][k]);
                }
                due("reading", x.reading(i, 0, 0), 1);
            }
        }
    }

    /** Anything at free columns, and at the others what they must be then. */
    private int[] agreeing() {
        int[][] m = copied(-1, 0, 0);
        int[] leader = steps(m, column[8]);
        int[] row = new int[column[8]];
        for (int c = 0; c < column[8]; c++) {
            row[c] = leader[c] < 0 ? random.nextInt(p) : 0;
        }
        for (int c = 0; c < column[8]; c++) {
            int sum = 0;
            for (int d = 0; d < column[8] && leader[c] >= 0; d++) {
                sum += leader[d] < 0 ? m[leader[c]][d] * row[d] : 0;
            }
            row[c] = leader[c] < 0 ? row[c] : Math.floorMod(-sum, p);
        }
        return row;
    }

    private void checkAsks(int spoilt) {
        int n = lines.size();
        int width = column[8] + 1 + n;
        int[][] m = copied(-1, 1 + n, 0);
        x.sheet(1, 2, 40);
        int[] row = new int[column[8]];
        for (int c = 0; c < column[8]; c++) {
            row[c] = random.nextInt(p);
        }
        for (int i = 0; i < n; i++) {
            int sum = i < spoilt ? random.nextInt(p) : 0;
            for (int c = 0; c < column[8]; c++) {
                sum += lines.get(i)[c] * row[c];
            }
            m[i][column[8]] = sum % p;
            m[i][column[8] + 1 + i] = 1;
            x.set(1, 10 + i, sum % p);
        }
        steps(m, width);
        int[] proof = null;
        for (int i = 0; i < n && proof == null; i++) {
            boolean nought = m[i][column[8]] != 0;
            for (int c = 0; c < column[8]; c++) {
                nought &= m[i][c] == 0;
            }
            proof = nought ? m[i] : null;
        }
        due("met", x.met(1, 10, -1), proof == null ? 1 : 0);
        for (int k = 0; k < n; k++) {
            due("proof " + k, x.met(1, 10, k), proof == null ? NONE : proof[column[8] + 1 + k]);
        }
    }

    private static void choices(int seed) {
        LargeTest t = new LargeTest(seed);
        StringBuilder text = new StringBuilder();
        for (int i = 0; i < 8; i++) {
            text.append("eye choice 4;");
        }
        t.say(text.toString());
        boolean[][] barred = new boolean[32][32];
        text.setLength(0);
        for (int i = 0; i < 30; i++) {
            int a = t.random.nextInt(8);
            int b = (a + 1 + t.random.nextInt(7)) % 8;
            int v = t.random.nextInt(4);
            int w = t.random.nextInt(4);
            barred[a * 4 + v][b * 4 + w] = true;
            barred[b * 4 + w][a * 4 + v] = true;
            text.append("bar " + a + " " + v + " " + b + " " + w + ";");
        }
        t.say(text.toString());
        int ways = 0;
        int first = -1;
        for (int code = 0; code < 65536; code++) {
            boolean fine = true;
            for (int a = 0; a < 8 && fine; a++) {
                for (int b = 0; b < a && fine; b++) {
                    fine = !barred[a * 4 + (code >> 14 - 2 * a & 3)][b * 4 + (code >> 14 - 2 * b & 3)];
                }
            }
            ways += fine ? 1 : 0;
            first = fine && first < 0 ? code : first;
        }
        t.due("fills", t.x.fills(-1), ways);
        for (int a = 0; a < 8; a++) {
            t.due("first " + a, t.x.fills(a), first < 0 ? NONE : first >> 14 - 2 * a & 3);
        }
    }

    public static void main(String[] args) {
        for (int seed = 0; seed < 40; seed++) {
            LargeTest t = new LargeTest(seed);
            t.tell(1 + seed % 7);
            t.checkBasis();
            for (int i = 0; i < 4; i++) {
                if (i % 2 == 0) {
                    t.renew();
                }
                t.takeReadings(i == 0 ? 1 : 20 * i);
                t.checkReadings();
                t.checkAsks(i % 2 * 2);
            }
            t.checkBasis();
            choices(seed);
        }
        System.out.println("large: " + checks + " checks, " + wrong + " wrong");
        if (wrong != 0) {
            System.exit(1);
        }
    }
}
