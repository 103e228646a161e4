/** The edges of promises 27 (kind) to 32 (status), of KINDS and BODIES, and of how refusals are answered. */
public final class EdgesOfAsksTest {
    private static final int BAD = Edges.BAD, FULL = Edges.FULL, NONE = Edges.NONE, KIND = Edges.KIND;
    private static final int NULL = Edges.NULL, PLACE = Edges.PLACE, SIZE = Edges.SIZE, STORE = Edges.STORE;
    private static final int MIN = Edges.MIN, MAX = Edges.MAX;
    private static final int[] NO_EYE = {MIN, -1, 6, 7, 8, MAX};

    private static TiedViews eightChoices() {
        return Edges.told(2, Edges.times(8, "eye choice 1;"), Edges.times(30, "bar 0 0 7 0;"));
    }

    /** A scene of which nothing has been asked yet. */
    private static TiedViews unasked() {
        return Edges.told(7, Edges.BUSY_TEXT);
    }

    // ---- promise 27: kind

    private static void kinds() {
        Edges.sentence(27, "BAD");
        for (int i : NO_EYE) {
            Edges.refused(Edges::busy, "kind(" + i + ")", BAD, x -> x.kind(i));
        }
        Edges.refused(() -> new TiedViews(2), "kind(0) of nothing", BAD, x -> x.kind(0));
        Edges.sentence(27, "it is told as the last of these that fits");
        int[] dues = {1, 2, 3, 4, 4, 1};
        for (int i = 0; i < 6; i++) {
            int eye = i;
            Edges.asks(Edges::busy, "kind(" + i + ")", dues[i], x -> x.kind(eye));
        }
        Edges.due("the last of 8", Edges.full().kind(7), 1);
        Edges.due("8 of 8", Edges.full().kind(8), BAD);
        Edges.due("the last of 8 choices", eightChoices().kind(7), 4);
    }

    // ---- promise 28: as

    private static void asNumbers() {
        Edges.sentence(28, "BAD: no such EYE");
        for (int i : NO_EYE) {
            for (int k = 0; k < 5; k++) {
                int kind = k;
                Edges.refused(Edges::busy, "as(" + i + ", " + k + ")", BAD, x -> x.as(i, kind));
            }
        }
        Edges.sentence(28, "BAD: a KIND (0 .. 4)");
        for (int k : new int[] {MIN, -1, 5, 6, MAX}) {
            for (int i = 0; i < 6; i++) {
                int eye = i;
                Edges.refused(Edges::busy, "as(" + i + ", " + k + ")", BAD, x -> x.as(eye, k));
            }
        }
    }

    private static void asKinds() {
        int[][] dues = {{2, 2, KIND, KIND, KIND}, {2, 2, 2, KIND, KIND}, {1, 1, KIND, 1, KIND}, {3, KIND, KIND, KIND, 3},
            {2, KIND, KIND, KIND, 2}, {3, 3, KIND, KIND, KIND}};
        Edges.sentence(28, "KIND: it is no such one");
        for (int i = 0; i < 6; i++) {
            for (int k = 0; k < 5; k++) {
                int eye = i;
                int kind = k;
                if (dues[i][k] == KIND) {
                    Edges.refused(Edges::busy, "as(" + i + ", " + k + ")", KIND, x -> x.as(eye, kind));
                }
            }
        }
        Edges.sentence(28, "an EYE is taken as one of a KIND that it is: how many numbers (values)");
        for (int i = 0; i < 6; i++) {
            for (int k = 0; k < 5; k++) {
                if (dues[i][k] != KIND) {
                    TiedViews x = Edges.busy();
                    x.drop(7);
                    Edges.due("as(" + i + ", " + k + ")", x.as(i, k), dues[i][k]);
                    Edges.due("status() then", x.status(), 0);
                }
            }
        }
        Edges.sentence(28, "it changes nothing of the EYE");
        Edges.same("as", () -> {
            TiedViews x = Edges.busy();
            x.as(1, 0);
            x.as(1, 1);
            x.as(3, 0);
            return x;
        }, Edges::busy);
        TiedViews x = Edges.busy();
        x.as(1, 0);
        Edges.due("its kind", x.kind(1), 2);
        x.ask(1, 0);
        Edges.due("its body", x.trace(0), 12);
    }

    // ---- promise 29: ask

    private static void askNumbers() {
        Edges.sentence(29, "BAD: no such EYE");
        for (int i : NO_EYE) {
            Edges.refused(Edges::busy, "ask(" + i + ", 0)", BAD, x -> x.ask(i, 0));
            Edges.refused(Edges::busy, "ask(" + i + ", 1)", BAD, x -> x.ask(i, 1));
        }
        Edges.sentence(29, "BAD: an ASK (0, 1)");
        for (int what : new int[] {MIN, -1, 2, 3, MAX}) {
            Edges.refused(Edges::busy, "ask(0, " + what + ")", BAD, x -> x.ask(0, what));
            Edges.refused(Edges::busy, "ask(3, " + what + ")", BAD, x -> x.ask(3, what));
        }
    }

    /** {the answer, then THE TRACE}. */
    private static void dueAsk(Edges.Scene scene, int eye, int what, int... dues) {
        TiedViews x = scene.make();
        x.drop(7);
        int status = x.status();
        Edges.due("ask(" + eye + ", " + what + ")", x.ask(eye, what), dues[0]);
        for (int i = 1; i < dues.length; i++) {
            Edges.due("trace(" + (i - 1) + ") of ask(" + eye + ", " + what + ")", x.trace(i - 1), dues[i]);
        }
        Edges.due("behind the trace of ask(" + eye + ", " + what + ")", x.trace(dues.length - 1), NONE);
        Edges.due("status() behind ask(" + eye + ", " + what + ")", x.status(), status);
    }

    private static void askSizes() {
        Edges.sentence(29, "SIZE: 11 of LINEAR ones: what 10 gives, and how many TIES it is in");
        dueAsk(Edges::busy, 0, 0, 4, 11, 10);
        dueAsk(Edges::busy, 5, 0, 4, 11, 10);
        Edges.sentence(29, "SIZE: 12 of MOD ones: what 11 gives, times THE PRIME");
        dueAsk(Edges::busy, 1, 0, 28, 12, 11, 10);
        dueAsk(() -> Edges.told(2, "eye mod 1;"), 0, 0, 2, 12, 11, 10);
        Edges.sentence(29, "SIZE: 13 of HELD ones: what 11 gives, less MARK");
        dueAsk(Edges::busy, 2, 0, 2 - 102, 13, 11, 10, 21, 20);
        dueAsk(() -> Edges.told(2, "eye held 1;"), 0, 0, 1, 13, 11, 10, 21, 20);
        Edges.sentence(29, "SIZE: 14 of CHOICES: what 10 gives, and how many values its SET has");
        dueAsk(Edges::busy, 3, 0, 5, 14, 10);
        dueAsk(Edges::busy, 4, 0, 4, 14, 10);
        dueAsk(() -> {
            TiedViews x = Edges.told(2, "eye choice 4;eye choice 1;bar 0 0 1 0;bar 0 1 1 0;bar 0 2 1 0;bar 0 3 1 0;");
            x.narrow();
            return x;
        }, 0, 0, 4, 14, 10);
        dueAsk(() -> Edges.told(2, "eye choice 4;"), 0, 0, 8, 14, 10);
        Edges.sentence(29, "SIZE of an EYE in no TIE, and in all 10");
        dueAsk(Edges::full, 7, 0, 3, 11, 10);
        dueAsk(Edges::full, 0, 0, 13, 11, 10);
    }

    private static void askMarks() {
        Edges.sentence(29, "MARK: 21 of LINEAR ones: what 20 gives, and 100, if it has a READING");
        dueAsk(Edges::busy, 0, 1, 100, 21, 20);
        dueAsk(Edges::busy, 5, 1, 5, 21, 20);
        dueAsk(Edges::full, 7, 1, 107, 21, 20);
        Edges.sentence(29, "MARK: 22 of MOD ones: what 21 gives, and SIZE");
        dueAsk(Edges::busy, 1, 1, 29, 22, 21, 20, 12, 11, 10);
        dueAsk(() -> Edges.reads(Edges.busy(), 1, 0, 0), 1, 1, 129, 22, 21, 20, 12, 11, 10);
        Edges.sentence(29, "MARK of HELD ones: that of the nearest KIND that it is, too");
        dueAsk(Edges::busy, 2, 1, 102, 21, 20);
        Edges.sentence(29, "MARK: 23 of CHOICES: what 20 gives, and 1000");
        dueAsk(Edges::busy, 3, 1, 1003, 23, 20);
        dueAsk(EdgesOfAsksTest::eightChoices, 0, 1, 1000, 23, 20);
        dueAsk(EdgesOfAsksTest::eightChoices, 7, 1, 1007, 23, 20);
    }

    private static void traceIsEmptyAhead() {
        Edges.sentence(29, "THE TRACE is empty ahead of it");
        TiedViews x = Edges.busy();
        x.ask(1, 1);
        Edges.due("six numbers", x.trace(5), 10);
        x.ask(3, 0);
        Edges.due("the first of two", x.trace(0), 14);
        Edges.due("the second of two", x.trace(1), 10);
        for (int i = 2; i < 17; i++) {
            Edges.due("number " + i, x.trace(i), NONE);
        }
        x.ask(3, 0);
        Edges.due("asked again", x.trace(2), NONE);
    }

    // ---- promise 30: trace

    private static void traces() {
        Edges.sentence(30, "NONE: there is no such number");
        for (int i : new int[] {MIN, -1, 0, 1, 15, 16, MAX}) {
            Edges.asks(EdgesOfAsksTest::unasked, "trace(" + i + ") of nothing asked", NONE, x -> x.trace(i));
        }
        for (int i : new int[] {MIN, -2, -1, 6, 7, 15, 16, MAX}) {
            Edges.asks(Edges::busy, "trace(" + i + ")", NONE, x -> x.trace(i));
        }
        Edges.sentence(30, "number i of THE TRACE, from the first to the last");
        int[] dues = {22, 21, 20, 12, 11, 10};
        for (int i = 0; i < 6; i++) {
            int at = i;
            Edges.asks(Edges::busy, "trace(" + i + ")", dues[i], x -> x.trace(at));
        }
        Edges.sentence(30, "THE TRACE stays while nothing is asked");
        TiedViews x = Edges.busy();
        x.kind(0);
        x.as(0, 0);
        x.eye(0, 1);
        x.unread(0);
        x.read();
        x.tick(1);
        x.narrow();
        Edges.due("the first", x.trace(0), 22);
        Edges.due("the last", x.trace(5), 10);
    }

    // ---- promise 31: count

    private static void counts() {
        Edges.sentence(31, "BAD: what (0 to 8)");
        for (int what : new int[] {MIN, -1, 9, 10, MAX}) {
            Edges.refused(Edges::busy, "count(" + what + ")", BAD, x -> x.count(what));
        }
        Edges.sentence(31, "SHEETS, EYES, TIES, bars, READINGS, RULES, CHOICES, bytes, THE PRIME");
        int[] dues = {5, 6, 3, 2, 2, 4, 2, 10, 7};
        for (int i = 0; i < 9; i++) {
            int what = i;
            Edges.asks(Edges::busy, "count(" + i + ")", dues[i], x -> x.count(what));
        }
        Edges.sentence(31, "none of them");
        for (int i = 0; i < 8; i++) {
            Edges.due("count(" + i + ") of nothing", new TiedViews(3).count(i), 0);
        }
        Edges.sentence(31, "as many as there may be");
        int[] full = {8, 8, 10, 0, 8, 16, 0, 500, 7};
        for (int i = 0; i < 9; i++) {
            Edges.due("count(" + i + ") of all", Edges.full().count(i), full[i]);
        }
        int[] choices = {0, 8, 0, 30, 0, 0, 8, 0, 2};
        for (int i = 0; i < 9; i++) {
            Edges.due("count(" + i + ") of choices", eightChoices().count(i), choices[i]);
        }
        Edges.sentence(31, "one more and one less");
        TiedViews x = Edges.busy();
        x.sheet(3, 2, 0);
        Edges.due("a sheet in place of one", x.count(0), 5);
        x.sheet(7, 2, 0);
        Edges.due("a sheet more", x.count(0), 6);
        x.drop(0);
        x.drop(1);
        Edges.due("two sheets less", x.count(0), 4);
        x.reading(0, 2, 0);
        Edges.due("a reading in place of one", x.count(4), 2);
        x.reading(5, 2, 0);
        Edges.due("a reading more", x.count(4), 3);
        x.unread(0);
        Edges.due("a reading less", x.count(4), 2);
        x.feed(32, 1);
        Edges.due("a byte more", x.count(7), 11);
        x.read();
        Edges.due("no bytes", x.count(7), 0);
        Edges.due("an eye more", x.count(1), 7);
        Edges.due("no choice more", x.count(6), 2);
    }

    // ---- promise 32: status

    private static void statusOfFindings() {
        Edges.sentence(32, "0: there was none");
        Edges.due("new", new TiedViews(7).status(), 0);
        Edges.due("behind BAD", badOnly().status(), 0);
        Edges.sentence(32, "the number of its FINDING");
        TiedViews x = Edges.busy();
        int[] answers = {x.drop(7), x.status(), x.set(0, 5, 0), x.status(), x.as(0, 4), x.status(), x.sheet(0, 0, -1), x.status(),
            x.copy(0, 0, 1, 0, 0), x.status()};
        int[] dues = {NULL, 1, PLACE, 2, KIND, 3, SIZE, 4, STORE, 5};
        for (int i = 0; i < dues.length; i++) {
            Edges.due("answer " + i, answers[i], dues[i]);
        }
        Edges.due("asked again", x.status(), 5);
    }

    private static TiedViews badOnly() {
        TiedViews x = new TiedViews(7);
        x.sheet(8, 0, 0);
        x.set(-1, 0, 0);
        x.copy(0, 0, 8, 0, 0);
        x.drop(8);
        x.as(0, 0);
        x.reading(0, 0, 0);
        x.met(8, 0, -1);
        return x;
    }

    private static void statusOfFineCalls() {
        Edges.sentence(32, "0: the latest call with a SHEET, or as(), had none");
        String[] names = {"sheet", "set", "copy", "drop", "reading", "met", "as", "met that is not", "set to 0", "copy of none"};
        Edges.Call[] calls = {x -> x.sheet(7, 0, 0), x -> x.set(0, 0, 1), x -> x.copy(0, 0, 0, 0, 1), x -> x.drop(0),
            x -> x.reading(0, 0, 0), x -> x.met(2, 0, -1), x -> x.as(0, 1), x -> x.met(2, 0, 0), x -> x.set(0, 0, 0),
            x -> x.copy(3, 0, 3, 0, 0)};
        for (int i = 0; i < calls.length; i++) {
            TiedViews x = Edges.busy();
            x.drop(6);
            Edges.due("a finding ahead of " + names[i], x.status(), 1);
            Edges.due(names[i] + " is fine", calls[i].on(x) <= BAD ? 1 : 0, 0);
            Edges.due("status behind " + names[i], x.status(), 0);
        }
    }

    private static void statusOfOtherCalls() {
        Edges.sentence(32, "of the latest call with a SHEET, or as(): others leave it");
        Edges.Call[] others = {x -> x.feed(32, 1), x -> x.read(), x -> x.fault(), x -> x.eye(0, 0), x -> x.all(0),
            x -> x.basis(0, 0), x -> x.unread(0), x -> x.unread(1), x -> x.fill(-1), x -> x.fill(0), x -> x.fixed(0),
            x -> x.fewest(), x -> x.cost(0), x -> x.hear(1, 0, 0), x -> x.now(0, 0, 1), x -> x.tick(1), x -> x.says(0, 0),
            x -> x.settles(0), x -> x.choose(3, 1), x -> x.narrow(), x -> x.fills(-1), x -> x.fills(3), x -> x.kind(0),
            x -> x.ask(0, 0), x -> x.ask(2, 1), x -> x.trace(0), x -> x.count(0), x -> x.status()};
        for (int i = 0; i < others.length; i++) {
            TiedViews x = Edges.busy();
            x.copy(0, 0, 1, 0, 0);
            others[i].on(x);
            Edges.due("status behind call " + i, x.status(), 5);
            x = Edges.busy();
            others[i].on(x);
            Edges.due("status 0 behind call " + i, x.status(), 0);
        }
        Edges.sentence(32, "that was not BAD, STATE, FULL");
        Edges.Call[] bad = {x -> x.sheet(8, 0, 0), x -> x.sheet(0, 0, 41), x -> x.set(8, 0, 0), x -> x.copy(8, 0, 0, 0, 0),
            x -> x.drop(-1), x -> x.reading(3, 0, 0), x -> x.reading(2, 4, 3), x -> x.met(2, 0, 6), x -> x.met(4, 0, 99),
            x -> x.as(0, 5), x -> x.as(6, 0), x -> x.feed(32, 9)};
        for (int i = 0; i < bad.length; i++) {
            TiedViews x = Edges.busy();
            x.as(0, 4);
            Edges.due("call " + i, bad[i].on(x), BAD);
            Edges.due("status behind call " + i, x.status(), 3);
        }
        TiedViews x = Edges.full();
        x.set(0, 40, 0);
        Edges.due("feed", x.feed(32, 1), FULL);
        Edges.due("hear", x.hear(0, 0, 0), FULL);
        Edges.due("status behind FULL", x.status(), 2);
    }

    private static void constants() {
        Edges.sentence(0, "NONE, BAD, STATE, FULL and the FINDINGS, -1000010 less their number");
        Edges.due("NONE", TiedViews.NONE, -1000000);
        Edges.due("BAD", TiedViews.BAD, -1000001);
        Edges.due("STATE", TiedViews.STATE, -1000002);
        Edges.due("FULL", TiedViews.FULL, -1000003);
        Edges.due("NULL", Edges.busy().drop(7), -1000011);
        Edges.due("PLACE", Edges.busy().set(0, -1, 0), -1000012);
        Edges.due("KIND", Edges.busy().as(0, 2), -1000013);
        Edges.due("SIZE", Edges.busy().sheet(0, 0, -1), -1000014);
        Edges.due("STORE", Edges.busy().copy(0, 0, 1, 0, 1), -1000015);
    }

    public static void main(String[] args) {
        kinds();
        asNumbers();
        asKinds();
        askNumbers();
        askSizes();
        askMarks();
        traceIsEmptyAhead();
        traces();
        counts();
        statusOfFindings();
        statusOfFineCalls();
        statusOfOtherCalls();
        constants();
        Edges.end("edges of asks");
    }
}
