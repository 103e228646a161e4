import java.util.ArrayList;
import java.util.Arrays;
import java.util.List;
import java.util.Random;

/** Wild calls made by a fixed seed: none throws, and what is refused or found changes nothing but status(). */
public final class RefusalsTest {
    private static final int[] WILD = {Integer.MIN_VALUE, -1000000, -41, -2, -1, 8, 9, 16, 40, 41, 101, 1000000,
        Integer.MAX_VALUE};
    private static final String[] TEXTS = {
        "eye view 2;eye mod 3;eye held 2;tie 0 1 3 by 1 0,1 1,0 1 and 1 0 0,0 1 0,0 0 1;tie 2 0 2 by 1 1,0 1 and 0 1,1 1;",
        "eye choice 3;eye choice 2;", "eye view 1;eye held 1;tie 0 1 1 by 1 and 1;", "bar 3 0 4 1;", "eye view 7;", "tie 0",
        "tie 1 0 2 by 1 1 1,0 1 0 and 1 0,0 1;"};
    private static int wrong = 0;
    private static long calls = 0;
    private static long refused = 0;

    /** One call of a run, so that the run can be made again on a new object. */
    private record Made(int which, int[] n, long w, int answer) {
        String name() {
            return "call " + which + " " + Arrays.toString(n) + " " + w;
        }
    }

    private final Random random;
    private final int prime;
    private final TiedViews x;
    private final List<Made> run = new ArrayList<>();

    private RefusalsTest(int seed) {
        random = new Random(seed);
        prime = random.nextInt(9);
        x = new TiedViews(prime);
    }

    private int number() {
        return random.nextInt(8) == 0 ? WILD[random.nextInt(WILD.length)] : random.nextInt(4);
    }

    private static int call(TiedViews x, int which, int[] n, long w) {
        switch (which) {
            case 0: return x.sheet(n[0], n[1], n[2]);
            case 1: return x.set(n[0], n[1], n[2]);
            case 2: return x.copy(n[0], n[1], n[2], n[3], n[4]);
            case 3: return x.drop(n[0]);
            case 4: return x.feed(w, n[0]);
            case 5: return x.read();
            case 6: return x.fault();
            case 7: return x.eye(n[0], n[1]);
            case 8: return x.all(n[0]);
            case 9: return x.basis(n[0], n[1]);
            case 10: return x.reading(n[0], n[1], n[2]);
            case 11: return x.unread(n[0]);
            case 12: return x.fill(n[0]);
            case 13: return x.fixed(n[0]);
            case 14: return x.fewest();
            case 15: return x.met(n[0], n[1], n[2]);
            case 16: return x.cost(n[0]);
            case 17: return x.hear(n[0], n[1], n[2]);
            case 18: return x.now(n[0], n[1], n[2]);
            case 19: return x.tick(n[0]);
            case 20: return x.says(n[0], n[1]);
            case 21: return x.settles(n[0]);
            case 22: return x.choose(n[0], n[1]);
            case 23: return x.narrow();
            case 24: return x.fills(n[0]);
            case 25: return x.kind(n[0]);
            case 26: return x.as(n[0], n[1]);
            case 27: return x.ask(n[0], n[1]);
            case 28: return x.trace(n[0]);
            case 29: return x.count(n[0]);
            default: return x.status();
        }
    }

    /** All that can be asked without a change; status() is asked apart, since what is found changes it. */
    private static int[] state(TiedViews x) {
        int[] s = new int[400];
        int n = 0;
        for (int i = 0; i < 9; i++) {
            s[n++] = x.count(i);
        }
        s[n++] = x.fault();
        for (int i = 0; i < 8; i++) {
            for (int k = 0; k < 6; k++) {
                s[n++] = x.eye(i, k);
            }
            for (int k = 0; k < 3; k++) {
                s[n++] = x.says(i, k);
            }
            s[n++] = x.fills(i);
        }
        for (int i = 0; i < 5; i++) {
            s[n++] = x.all(i);
        }
        for (int c = -1; c < 24; c++) {
            s[n++] = x.fill(c);
            s[n++] = x.fixed(c);
            s[n++] = x.basis(0, c);
            s[n++] = x.basis(1, c);
        }
        for (int i = 0; i < 10; i++) {
            s[n++] = x.cost(i);
        }
        for (int i = 0; i < 16; i++) {
            s[n++] = x.trace(i);
        }
        s[n++] = x.fewest();
        s[n++] = x.settles(0);
        s[n++] = x.settles(1);
        s[n++] = x.fills(-1);
        return s;
    }

    private void make(int which, int[] n, long w) {
        run.add(new Made(which, n, w, call(x, which, n, w)));
        calls++;
    }

    private void feed(String text) {
        for (int i = 0; i < text.length(); i += 8) {
            int n = Math.min(8, text.length() - i);
            long w = 0;
            for (int k = 0; k < n; k++) {
                w = w << 8 | text.charAt(i + k);
            }
            make(4, new int[] {n}, w);
        }
    }

    /** A new object for which the first calls of the run have been made: a look at it leaves it below 512 calls. */
    private TiedViews behind(int madeCalls) {
        TiedViews y = new TiedViews(prime);
        for (Made m : run.subList(0, madeCalls)) {
            call(y, m.which, m.n, m.w);
        }
        return y;
    }

    private void run() {
        while (run.size() < 180) {
            if (random.nextInt(16) == 0) {
                feed(TEXTS[random.nextInt(TEXTS.length)]);
            }
            make(random.nextInt(31), new int[] {number(), number(), number(), number(), number()}, random.nextLong());
        }
        for (int i = 0; i < run.size(); i++) {
            Made m = run.get(i);
            boolean no = m.answer == TiedViews.BAD || m.answer == TiedViews.FULL;
            boolean found = m.answer <= -1000011 && m.answer >= -1000015;
            if (no || found) {
                refused++;
                TiedViews asked = behind(i + 1);
                TiedViews before = behind(i);
                check(m.name() + " status", asked.status() == (no ? before.status() : -1000010 - m.answer));
                check(m.name() + " changed something", Arrays.equals(state(before), state(asked)));
            }
        }
    }

    private static void check(String what, boolean fine) {
        if (!fine) {
            wrong++;
            System.out.println(what);
        }
    }

    public static void main(String[] args) {
        for (int seed = 0; seed < 100; seed++) {
            new RefusalsTest(seed).run();
        }
        System.out.println("refusals: " + calls + " calls, " + refused + " refused, " + wrong + " wrong");
        if (wrong != 0) {
            System.exit(1);
        }
    }
}
