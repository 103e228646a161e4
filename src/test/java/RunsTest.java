import java.nio.charset.StandardCharsets;
import java.util.ArrayList;
import java.util.List;
import java.util.Random;

/**
 * Whole runs of calls made by a fixed seed, each call's answer against that of the document taken once more
 * sentence by sentence (Plain): what is kept from one call to the next must not be seen. Every promise is called,
 * with numbers that mostly are as told and sometimes wild, and no object for more than 512 calls.
 */
public final class RunsTest {
    private static final int MOST_CALLS = 512;
    private static final int[] WILD = {Integer.MIN_VALUE, -1000000, -2, -1, 8, 9, 10, 24, 30, 40, 41, 300, Integer.MAX_VALUE};
    private static final String[] SORTS = {"view", "mod", "held", "choice"};
    private static final String[] NAMES = {"sheet", "set", "copy", "drop", "feed", "read", "fault", "eye", "all", "basis",
        "reading", "unread", "fill", "fixed", "fewest", "met", "cost", "hear", "now", "tick", "says", "settles", "choose",
        "narrow", "fills", "kind", "as", "ask", "trace", "count", "status"};
    private static int wrong = 0;
    private static long calls = 0;
    private static final long[] fineOf = new long[NAMES.length];

    private final Random random;
    private final int seed;
    private final TiedViews x;
    private final Plain y;
    private final List<String> told = new ArrayList<>();
    private final int prime;
    private final boolean linear;
    private final boolean choices;
    private int made = 0;
    private boolean failed = false;

    private RunsTest(int seed) {
        this.seed = seed;
        random = new Random(seed);
        int asked = new int[] {2, 3, 5, 7, 7, 4, -1}[random.nextInt(7)];
        x = new TiedViews(asked);
        y = new Plain(asked);
        prime = y.count(8);
        int flavour = random.nextInt(4);
        linear = flavour != 0;
        choices = flavour < 2;
    }

    /** Makes the call on both; the answer is that which is due. */
    private int call(int which, long w, int... n) {
        if (made == MOST_CALLS || failed) {
            return TiedViews.NONE;
        }
        made++;
        calls++;
        int got = onClass(which, w, n);
        int due = onPlain(which, w, n);
        StringBuilder words = new StringBuilder(NAMES[which]).append('(');
        if (which == 4) {
            words.append(w).append("L, ");
        }
        for (int i = 0; i < n.length; i++) {
            words.append(i == 0 ? "" : ", ").append(n[i]);
        }
        told.add(words.append(")").toString());
        if (due > TiedViews.NONE) {
            fineOf[which]++;
        }
        if (got != due) {
            failed = true;
            wrong++;
            System.out.println("seed " + seed + ", prime " + prime + ", call " + made + ": " + words + " answered " + got
                + ", due is " + due + "; the run: " + told);
        }
        return due;
    }

    private int onClass(int which, long w, int[] n) {
        switch (which) {
            case 0: return x.sheet(n[0], n[1], n[2]);
            case 1: return x.set(n[0], n[1], n[2]);
            case 2: return x.copy(n[0], n[1], n[2], n[3], n[4]);
            case 3: return x.drop(n[0]);
            case 4: return x.feed(w, n[0]);
            case 5: return x.read();
            case 6: return x.fault();
            case 7: return x.eye(n[0], n[1]);
            case 8: return x.all(n[0]);
            case 9: return x.basis(n[0], n[1]);
            case 10: return x.reading(n[0], n[1], n[2]);
            case 11: return x.unread(n[0]);
            case 12: return x.fill(n[0]);
            case 13: return x.fixed(n[0]);
            case 14: return x.fewest();
            case 15: return x.met(n[0], n[1], n[2]);
            case 16: return x.cost(n[0]);
            case 17: return x.hear(n[0], n[1], n[2]);
            case 18: return x.now(n[0], n[1], n[2]);
            case 19: return x.tick(n[0]);
            case 20: return x.says(n[0], n[1]);
            case 21: return x.settles(n[0]);
            case 22: return x.choose(n[0], n[1]);
            case 23: return x.narrow();
            case 24: return x.fills(n[0]);
            case 25: return x.kind(n[0]);
            case 26: return x.as(n[0], n[1]);
            case 27: return x.ask(n[0], n[1]);
            case 28: return x.trace(n[0]);
            case 29: return x.count(n[0]);
            default: return x.status();
        }
    }

    private int onPlain(int which, long w, int[] n) {
        switch (which) {
            case 0: return y.sheet(n[0], n[1], n[2]);
            case 1: return y.set(n[0], n[1], n[2]);
            case 2: return y.copy(n[0], n[1], n[2], n[3], n[4]);
            case 3: return y.drop(n[0]);
            case 4: return y.feed(w, n[0]);
            case 5: return y.read();
            case 6: return y.fault();
            case 7: return y.eye(n[0], n[1]);
            case 8: return y.all(n[0]);
            case 9: return y.basis(n[0], n[1]);
            case 10: return y.reading(n[0], n[1], n[2]);
            case 11: return y.unread(n[0]);
            case 12: return y.fill(n[0]);
            case 13: return y.fixed(n[0]);
            case 14: return y.fewest();
            case 15: return y.met(n[0], n[1], n[2]);
            case 16: return y.cost(n[0]);
            case 17: return y.hear(n[0], n[1], n[2]);
            case 18: return y.now(n[0], n[1], n[2]);
            case 19: return y.tick(n[0]);
            case 20: return y.says(n[0], n[1]);
            case 21: return y.settles(n[0]);
            case 22: return y.choose(n[0], n[1]);
            case 23: return y.narrow();
            case 24: return y.fills(n[0]);
            case 25: return y.kind(n[0]);
            case 26: return y.as(n[0], n[1]);
            case 27: return y.ask(n[0], n[1]);
            case 28: return y.trace(n[0]);
            case 29: return y.count(n[0]);
            default: return y.status();
        }
    }

    // ---- numbers

    /** From least to most, a step beyond, or wild. */
    private int number(int least, int most) {
        int how = random.nextInt(40);
        if (how == 0) {
            return WILD[random.nextInt(WILD.length)];
        }
        if (how == 1) {
            return random.nextBoolean() ? least - 1 : most + 1;
        }
        return most < least ? least : least + random.nextInt(most - least + 1);
    }

    private int eye() {
        return number(0, y.count(1) - 1);
    }

    /** An EYE of one of two sorts, where there is one. */
    private int eyeOf(boolean choice) {
        int eye = eye();
        for (int i = 0; i < 8 && y.eye(eye, 0) >= 0 && y.eye(eye, 0) == 3 != choice; i++) {
            eye = eye();
        }
        return eye;
    }

    private int sheet() {
        return random.nextInt(12) == 0 ? number(0, 7) : random.nextInt(3);
    }

    private int sizeOf(int eye) {
        return Math.max(1, y.eye(eye, 1));
    }

    // ---- texts

    private List<Integer> eyesOf(List<Integer> sorts, boolean choice) {
        List<Integer> found = new ArrayList<>();
        for (int i = 0; i < sorts.size(); i++) {
            if (sorts.get(i) == 3 == choice) {
                found.add(i);
            }
        }
        return found;
    }

    private String gap() {
        return random.nextInt(6) == 0 ? random.nextBoolean() ? "\n" : "  " : " ";
    }

    private String table(int rows, int size) {
        StringBuilder text = new StringBuilder();
        int zeros = random.nextInt(3);
        for (int row = 0; row < rows; row++) {
            text.append(row == 0 ? "" : ",");
            for (int k = 0; k < size; k++) {
                text.append(k == 0 ? "" : " ").append(zeros > 0 && random.nextInt(zeros + 1) > 0 ? 0 : random.nextInt(prime));
            }
        }
        return text.toString();
    }

    private String text() {
        List<Integer> sorts = new ArrayList<>();
        List<Integer> sizes = new ArrayList<>();
        for (int i = 0; i < y.count(1); i++) {
            sorts.add(y.eye(i, 0));
            sizes.add(y.eye(i, 1));
        }
        StringBuilder text = new StringBuilder();
        int sentences = random.nextInt(7);
        for (int i = 0; i < sentences && text.length() < 150; i++) {
            List<Integer> views = eyesOf(sorts, false);
            List<Integer> sets = eyesOf(sorts, true);
            int how = random.nextInt(5);
            if (how < 2 && linear && views.size() > 1) {
                int a = views.get(random.nextInt(views.size()));
                int b = views.get(random.nextInt(views.size()));
                if (a == b && random.nextInt(20) > 0) {
                    continue;
                }
                int r = random.nextBoolean() ? sizes.get(a) : 1 + random.nextInt(3);
                text.append("tie ").append(a).append(gap()).append(b).append(' ').append(r).append(" by ");
                text.append(table(r, sizes.get(a))).append(" and ").append(table(r, sizes.get(b))).append(";");
            } else if (how < 4 && choices && sets.size() > 1) {
                for (int k = 0; k < 3; k++) {
                    int a = sets.get(random.nextInt(sets.size()));
                    int b = sets.get(random.nextInt(sets.size()));
                    if (a == b && random.nextInt(20) > 0) {
                        continue;
                    }
                    text.append("bar ").append(a).append(gap()).append(random.nextInt(sizes.get(a))).append(' ');
                    text.append(b).append(' ').append(random.nextInt(sizes.get(b))).append(gap()).append(";");
                }
            } else if (sorts.size() < 8 || random.nextInt(30) == 0) {
                int sort = !linear || choices && random.nextInt(3) == 0 ? 3 : random.nextInt(3);
                int size = 1 + random.nextInt(sort == 3 ? 4 : 3);
                text.append("eye").append(gap()).append(SORTS[sort]).append(' ').append(size).append(";");
                sorts.add(sort);
                sizes.add(size);
            }
        }
        return spoilt(text);
    }

    private String spoilt(StringBuilder text) {
        if (text.length() > 0 && random.nextInt(8) == 0) {
            int at = random.nextInt(text.length());
            String other = " \n;,0137eytibarvwmodhlc\u00e9A";
            if (random.nextBoolean()) {
                text.setCharAt(at, other.charAt(random.nextInt(other.length())));
            } else {
                text.setLength(at);
            }
        }
        return text.toString();
    }

    private void tell() {
        byte[] bytes = text().getBytes(StandardCharsets.ISO_8859_1);
        for (int i = 0; i < bytes.length; ) {
            int n = Math.min(random.nextInt(6) == 0 ? 1 + random.nextInt(8) : 8, bytes.length - i);
            long w = random.nextLong();
            for (int k = 0; k < n; k++) {
                w = w << 8 | bytes[i + k] & 255;
            }
            i += n;
            call(4, w, n);
        }
        call(5, 0);
        call(6, 0);
    }

    // ---- runs

    private void write() {
        int sheet = sheet();
        int n = random.nextInt(3) == 0 ? number(0, 40) : Math.min(40, y.all(2) + random.nextInt(4));
        call(0, 0, sheet, number(0, 2), n);
        boolean wild = random.nextInt(6) == 0;
        for (int i = 0; i < n && i < 14; i++) {
            int at = n <= 14 ? i : random.nextInt(n);
            call(1, 0, sheet, at, wild ? random.nextInt() : random.nextInt(8) == 0 ? number(0, 6) : random.nextInt(prime));
        }
    }

    private void read() {
        int eye = eyeOf(false);
        int sheet = sheet();
        int size = sizeOf(eye);
        call(0, 0, sheet, random.nextInt(3), size);
        for (int k = 0; k < size; k++) {
            call(1, 0, sheet, k, random.nextInt(3) == 0 ? 0 : random.nextInt(prime));
        }
        call(10, 0, eye, sheet, 0);
    }

    private void askOnLines() {
        int sheet = sheet();
        int lines = y.all(2);
        call(0, 0, sheet, random.nextInt(3), lines);
        int asks = 1 + random.nextInt(4);
        for (int i = 0; i < asks && lines > 0; i++) {
            call(1, 0, sheet, random.nextInt(lines), random.nextInt(12) == 0 ? prime : random.nextInt(prime));
        }
        call(15, 0, sheet, 0, -1);
        for (int k = 0; k < lines && k < 8; k++) {
            call(15, 0, sheet, 0, lines <= 8 ? k : random.nextInt(lines));
        }
    }

    private void gossip() {
        for (int i = 0; i < 12; i++) {
            int to = eyeOf(false);
            boolean fine = y.eye(to, 0) != 2 || random.nextInt(4) == 0;
            if (fine && call(17, 0, to, eyeOf(false), number(0, y.count(2) - 1)) >= 0 && random.nextBoolean()) {
                break;
            }
        }
        for (int i = 0; i < 3; i++) {
            call(18, 0, eyeOf(false), number(0, 2), number(0, prime - 1));
        }
        call(21, 0, 0);
        call(21, 0, 1);
    }

    private void flood() {
        int bytes = 0;
        for (int i = 0; i < 66 && bytes >= 0; i++) {
            bytes = call(4, 0x2020202020202020L, random.nextInt(4) == 0 ? 7 : 8);
        }
        call(4, 32, 1);
        call(29, 0, 7);
        call(5, 0);
    }

    private void one() {
        int which = random.nextInt(NAMES.length);
        int column = number(0, y.all(1) - 1);
        int eye = eye();
        int set = eyeOf(true);
        int view = eyeOf(false);
        switch (which) {
            case 0: call(0, 0, sheet(), number(0, 2), number(-1, 40)); break;
            case 1: call(1, 0, sheet(), number(0, 8), random.nextInt()); break;
            case 2: call(2, 0, sheet(), number(0, 6), sheet(), number(0, 6), number(0, 6)); break;
            case 3: call(3, 0, sheet()); break;
            case 4: call(4, random.nextLong(), random.nextInt(3) > 0 ? 9 : number(0, 9)); break;
            case 5: call(5, 0); break;
            case 7: call(7, 0, eye, number(0, 5)); break;
            case 8: call(8, 0, number(0, 4)); break;
            case 9: call(9, 0, number(0, y.all(0)), column); break;
            case 10: call(10, 0, view, sheet(), number(0, 3)); break;
            case 11: call(11, 0, view); break;
            case 12: call(12, 0, random.nextInt(4) == 0 ? -1 : column); break;
            case 13: call(13, 0, column); break;
            case 15: call(15, 0, sheet(), number(0, 2), number(-1, y.all(2) - 1)); break;
            case 16: call(16, 0, number(0, y.count(2) - 1)); break;
            case 17: call(17, 0, view, eyeOf(false), number(0, y.count(2) - 1)); break;
            case 18: call(18, 0, view, number(0, sizeOf(view) - 1), number(0, prime - 1)); break;
            case 19: call(19, 0, random.nextInt(3) == 0 ? number(1, 100) : number(1, 4)); break;
            case 20: call(20, 0, view, number(0, sizeOf(view) - 1)); break;
            case 21: call(21, 0, number(0, 1)); break;
            case 22: call(22, 0, set, number(1, (1 << Math.min(4, sizeOf(set))) - 1)); break;
            case 24: call(24, 0, random.nextInt(3) == 0 ? -1 : set); break;
            case 25: call(25, 0, eye); break;
            case 26: call(26, 0, eye, number(0, 4)); break;
            case 27: call(27, 0, eye, number(0, 1)); break;
            case 28: call(28, 0, number(0, 6)); break;
            case 29: call(29, 0, number(0, 8)); break;
            default: call(which, 0); break;
        }
    }

    private void run() {
        while (made < MOST_CALLS && !failed) {
            int how = random.nextInt(80);
            if (how < 2 || made == 0) {
                tell();
            } else if (how == 2) {
                write();
            } else if (how == 3) {
                read();
            } else if (how == 4) {
                gossip();
            } else if (how == 5) {
                askOnLines();
            } else if (how == 6 && random.nextInt(20) == 0) {
                flood();
            } else {
                one();
            }
        }
    }

    public static void main(String[] args) {
        int runs = args.length > 0 ? Integer.parseInt(args[0]) : 400;
        for (int seed = 0; seed < runs && wrong < 5; seed++) {
            new RunsTest(seed).run();
        }
        for (int i = 0; i < NAMES.length; i++) {
            if (fineOf[i] == 0) {
                wrong++;
                System.out.println(NAMES[i] + " was never called with numbers that are as told");
            }
        }
        System.out.println("runs: " + runs + ", " + calls + " calls, " + wrong + " wrong");
        if (wrong != 0) {
            System.exit(1);
        }
    }
}
