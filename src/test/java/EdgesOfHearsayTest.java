/** The edges of promises 19 (hear) to 23 (settles), and of HEARSAY. */
public final class EdgesOfHearsayTest {
    private static final int BAD = Edges.BAD, FULL = Edges.FULL, NONE = Edges.NONE, MIN = Edges.MIN, MAX = Edges.MAX;
    private static final int[] NO_LINEAR = {MIN, -1, 3, 4, 6, 7, 8, MAX};
    private static final String ID_2 = "1 0,0 1";
    private static final String ID_3 = "1 0 0,0 1 0,0 0 1";

    /** EYE 0 takes of itself by a table that comes again behind 342 TICKS alone, by rests of 7. */
    private static TiedViews walker() {
        TiedViews x = Edges.told(7, "eye view 3;eye view 3;tie 0 1 3 by 0 1 0,0 0 1,3 0 1 and " + ID_3 + ";");
        x.hear(0, 0, 0);
        x.now(0, 2, 1);
        return x;
    }

    /** 16 RULES, of which the last two count. */
    private static TiedViews sixteen() {
        TiedViews x = Edges.told(7, "eye view 1;eye view 1;tie 0 1 1 by 2 and 3;tie 0 1 1 by 1 and 1;");
        for (int i = 0; i < 14; i++) {
            x.hear(i % 2, 0, 1);
        }
        x.hear(0, 0, 0);
        x.hear(1, 1, 0);
        x.now(0, 0, 1);
        x.now(1, 0, 5);
        return x;
    }

    private static TiedViews free24() {
        return Edges.told(7, Edges.times(8, "eye view 3;"));
    }

    // ---- promise 19: hear

    private static void hearNumbers() {
        Edges.sentence(19, "BAD: EYES (a choice)");
        for (int i : NO_LINEAR) {
            Edges.refused(Edges::busy, "hear(" + i + ", 0, 0)", BAD, x -> x.hear(i, 0, 0));
            Edges.refused(Edges::busy, "hear(1, " + i + ", 0)", BAD, x -> x.hear(1, i, 0));
            Edges.refused(Edges::busy, "hear(" + i + ", " + i + ", 0)", BAD, x -> x.hear(i, i, 0));
        }
        Edges.sentence(19, "BAD: a TIE");
        for (int t : new int[] {MIN, -1, 3, 4, 10, MAX}) {
            Edges.refused(Edges::busy, "hear(1, 0, " + t + ")", BAD, x -> x.hear(1, 0, t));
        }
        Edges.sentence(19, "BAD: a TIE of which from is none");
        Edges.refused(Edges::busy, "hear(1, 2, 0)", BAD, x -> x.hear(1, 2, 0));
        Edges.refused(Edges::busy, "hear(0, 5, 0)", BAD, x -> x.hear(0, 5, 0));
        Edges.refused(Edges::busy, "hear(2, 0, 1)", BAD, x -> x.hear(2, 0, 1));
        Edges.sentence(19, "BAD: that has not as many numbers as the EYE that takes");
        Edges.refused(Edges::busy, "hear(2, 0, 0): 2 for 1", BAD, x -> x.hear(2, 0, 0));
        Edges.refused(Edges::busy, "hear(5, 0, 0): 2 for 3", BAD, x -> x.hear(5, 0, 0));
        Edges.refused(Edges::busy, "hear(1, 0, 2): 3 for 2", BAD, x -> x.hear(1, 0, 2));
        Edges.refused(Edges::busy, "hear(0, 1, 1): 1 for 2", BAD, x -> x.hear(0, 1, 1));
    }

    private static void hearsThatAreFine() {
        Edges.sentence(19, "a LINEAR EYE takes of another one, or of itself: how many there are");
        Edges.due("the first", Edges.told(7, Edges.BUSY_TEXT).hear(1, 0, 0), 1);
        Edges.due("of itself", Edges.busy().hear(0, 0, 0), 5);
        Edges.due("of the second of a tie", Edges.busy().hear(0, 1, 0), 5);
        Edges.due("of the first of a tie", Edges.busy().hear(1, 0, 0), 5);
        Edges.due("a held one", Edges.busy().hear(2, 2, 1), 5);
        Edges.sentence(19, "the EYE that takes need not be of the TIE");
        TiedViews x = Edges.told(5, "eye view 1;eye view 1;eye view 1;tie 0 1 1 by 2 and 3;");
        Edges.due("hear(2, 1, 0)", x.hear(2, 1, 0), 1);
        x.now(1, 0, 4);
        x.tick(1);
        Edges.due("the table of the one that is heard", x.says(2, 0), 2);
        x.hear(2, 0, 0);
        x.now(0, 0, 3);
        x.tick(1);
        Edges.due("the other table", x.says(2, 0), 1);
    }

    private static void hear16() {
        Edges.sentence(19, "RULES (16 at most)");
        TiedViews x = Edges.told(7, "eye view 1;eye held 1;tie 0 1 1 by 2 and 3;");
        for (int i = 1; i <= 16; i++) {
            Edges.due("rule " + i, x.hear(i % 2, 0, 0), i);
        }
        Edges.sentence(19, "FULL: 16");
        Edges.refused(EdgesOfHearsayTest::sixteen, "rule 17", FULL, y -> y.hear(0, 0, 1));
        Edges.refused(EdgesOfHearsayTest::sixteen, "rule 17 of the other", FULL, y -> y.hear(1, 0, 1));
        Edges.refused(Edges::full, "rule 17 of all", FULL, y -> y.hear(0, 0, 0));
        Edges.sentence(19, "BAD goes ahead of FULL");
        Edges.refused(EdgesOfHearsayTest::sixteen, "hear(0, 0, 2)", BAD, y -> y.hear(0, 0, 2));
        Edges.refused(EdgesOfHearsayTest::sixteen, "hear(2, 0, 0)", BAD, y -> y.hear(2, 0, 0));
        Edges.refused(EdgesOfHearsayTest::sixteen, "hear(0, -1, 0)", BAD, y -> y.hear(0, -1, 0));
    }

    private static void hearLast() {
        Edges.sentence(19, "of several RULES of an EYE the one told last");
        TiedViews x = sixteen();
        Edges.due("a tick", x.tick(1), 2);
        Edges.due("the last of eye 0", x.says(0, 0), 2);
        Edges.due("the last of eye 1", x.says(1, 0), 1);
        Edges.sentence(19, "'held' ones take nothing");
        x = Edges.told(3, "eye held 1;eye view 1;tie 0 1 1 by 2 and 1;");
        Edges.due("a rule of it counts", x.hear(0, 1, 0), 1);
        x.now(0, 0, 2);
        x.now(1, 0, 1);
        Edges.due("a tick", x.tick(100), 2);
        Edges.due("it is as it was", x.says(0, 0), 2);
        Edges.due("one without a rule, too", x.says(1, 0), 1);
        Edges.sentence(19, "'view' and 'mod' ones take");
        for (String sort : new String[] {"view", "mod"}) {
            x = Edges.told(3, "eye " + sort + " 1;eye held 1;tie 0 1 1 by 2 and 1;");
            x.hear(0, 1, 0);
            x.now(1, 0, 2);
            Edges.due("a tick", x.tick(1), 2);
            Edges.due(sort + " takes", x.says(0, 0), 2);
        }
    }

    // ---- promise 20: now

    private static void nowNumbers() {
        Edges.sentence(20, "BAD: a LINEAR EYE");
        for (int i : NO_LINEAR) {
            Edges.refused(Edges::busy, "now(" + i + ", 0, 1)", BAD, x -> x.now(i, 0, 1));
        }
        Edges.sentence(20, "BAD: its number k");
        int[] sizes = {2, 2, 1, 0, 0, 3};
        for (int i : new int[] {0, 1, 2, 5}) {
            for (int k : new int[] {MIN, -1, sizes[i], sizes[i] + 1, MAX}) {
                Edges.refused(Edges::busy, "now(" + i + ", " + k + ", 1)", BAD, x -> x.now(i, k, 1));
            }
        }
        Edges.sentence(20, "BAD: v is no rest");
        for (int v : new int[] {MIN, -7, -1, 7, 8, MAX}) {
            Edges.refused(Edges::busy, "now(0, 0, " + v + ")", BAD, x -> x.now(0, 0, v));
            Edges.refused(Edges::busy, "now(5, 2, " + v + ")", BAD, x -> x.now(5, 2, v));
        }
    }

    private static void nowIsWhatItWas() {
        Edges.sentence(20, "NOW of number k becomes v: what it was");
        for (int p : Edges.PRIMES) {
            TiedViews x = Edges.told(p, "eye view 1;eye choice 2;eye held 3;");
            Edges.due("0 at first", x.now(2, 2, p - 1), 0);
            Edges.due("the last rest", x.now(2, 2, 0), p - 1);
            Edges.due("0 again", x.now(2, 2, 0), 0);
        }
        Edges.sentence(20, "NOW: a ROW, 0 at first, and each number by itself");
        TiedViews x = free24();
        for (int c = 0; c < 24; c++) {
            Edges.due("number " + c, x.now(c / 3, c % 3, c % 6 + 1), 0);
        }
        for (int c = 0; c < 24; c++) {
            Edges.due("number " + c, x.says(c / 3, c % 3), c % 6 + 1);
        }
    }

    // ---- promise 21: tick

    private static void tickNumbers() {
        Edges.sentence(21, "n TICKS (1 to 100); BAD");
        for (int n : new int[] {MIN, -1, 0, 101, 102, MAX}) {
            Edges.refused(Edges::busy, "tick(" + n + ")", BAD, x -> x.tick(n));
            Edges.refused(EdgesOfHearsayTest::walker, "tick(" + n + ") of a walker", BAD, x -> x.tick(n));
        }
        for (int n : new int[] {1, 2, 99, 100}) {
            TiedViews x = walker();
            TiedViews y = walker();
            int last = 0;
            for (int i = 0; i < n; i++) {
                last = x.tick(1);
            }
            Edges.due("tick(" + n + ")", y.tick(n), last);
            for (int k = 0; k < 3; k++) {
                Edges.due("number " + k + " behind tick(" + n + ")", y.says(0, k), x.says(0, k));
            }
        }
        Edges.sentence(21, "n TICKS are neither one fewer nor one more");
        TiedViews x = walker();
        x.tick(100);
        TiedViews before = walker();
        before.tick(99);
        TiedViews behind = walker();
        behind.tick(100);
        behind.tick(1);
        Edges.due("99 is not 100", code(before) == code(x) ? 1 : 0, 0);
        Edges.due("101 is not 100", code(behind) == code(x) ? 1 : 0, 0);
    }

    private static int code(TiedViews x) {
        return x.says(0, 0) * 100 + x.says(0, 1) * 10 + x.says(0, 2);
    }

    private static void ticksThatCount() {
        Edges.sentence(21, "how many numbers of NOW are not 0 then: none, and all 24");
        Edges.due("no columns", new TiedViews(2).tick(1), 0);
        Edges.due("choices alone", Edges.told(2, "eye choice 2;").tick(1), 0);
        TiedViews x = free24();
        Edges.due("0 at first", x.tick(1), 0);
        for (int c = 0; c < 24; c++) {
            x.now(c / 3, c % 3, 6);
            Edges.due(c + 1 + " numbers", x.tick(1), c + 1);
        }
        Edges.sentence(21, "a TICK: all at once");
        x = Edges.told(7, "eye view 1;eye view 1;tie 0 1 1 by 1 and 1;");
        x.hear(0, 1, 0);
        x.hear(1, 0, 0);
        x.now(0, 0, 3);
        x.now(1, 0, 5);
        x.tick(1);
        Edges.due("they change places", x.says(0, 0) * 10 + x.says(1, 0), 53);
        Edges.sentence(21, "an EYE without a RULE keeps its numbers");
        x = Edges.told(7, "eye view 1;eye view 1;tie 0 1 1 by 2 and 1;");
        x.hear(1, 0, 0);
        x.now(0, 0, 3);
        Edges.due("a tick", x.tick(100), 2);
        Edges.due("it keeps them", x.says(0, 0) * 10 + x.says(1, 0), 36);
    }

    // ---- promise 22: says

    private static void saysNumbers() {
        Edges.sentence(22, "BAD: a LINEAR EYE");
        for (int i : NO_LINEAR) {
            Edges.refused(Edges::busy, "says(" + i + ", 0)", BAD, x -> x.says(i, 0));
        }
        Edges.sentence(22, "BAD: number k");
        int[] sizes = {2, 2, 1, 0, 0, 3};
        for (int i : new int[] {0, 1, 2, 5}) {
            for (int k : new int[] {MIN, -1, sizes[i], sizes[i] + 1, MAX}) {
                Edges.refused(Edges::busy, "says(" + i + ", " + k + ")", BAD, x -> x.says(i, k));
            }
        }
        Edges.sentence(22, "number k of NOW, from the first to the last");
        int[][] dues = {{3, 0}, {0, 5}, {0}, {}, {}, {0, 0, 1}};
        for (int i = 0; i < 6; i++) {
            for (int k = 0; k < dues[i].length; k++) {
                int eye = i;
                int number = k;
                Edges.asks(Edges::busy, "says(" + i + ", " + k + ")", dues[i][k], x -> x.says(eye, number));
            }
        }
    }

    // ---- promise 23: settles

    private static void settlesNumbers() {
        Edges.sentence(23, "BAD: what (0, 1)");
        for (int what : new int[] {MIN, -1, 2, 3, MAX}) {
            Edges.refused(Edges::busy, "settles(" + what + ")", BAD, x -> x.settles(what));
            Edges.refused(EdgesOfHearsayTest::walker, "settles(" + what + ") of what is spent", BAD, x -> x.settles(what));
        }
        Edges.sentence(23, "nothing that changes: behind 0 TICKS, 1 later");
        dueSettles("nothing", () -> new TiedViews(2), 0, 1);
        dueSettles("no rules", EdgesOfHearsayTest::free24, 0, 1);
        Edges.sentence(23, "NONE: SPENT");
        dueSettles("342 ticks", EdgesOfHearsayTest::walker, NONE, NONE);
    }

    /** Asked in both orders, and nothing is changed by it: NOW stays. */
    private static void dueSettles(String what, Edges.Scene scene, int behind, int later) {
        Edges.asks(scene, "settles(0) of " + what, behind, x -> x.settles(0));
        Edges.asks(scene, "settles(1) of " + what, later, x -> x.settles(1));
        TiedViews x = scene.make();
        x.settles(0);
        Edges.due("settles(1) behind settles(0) of " + what, x.settles(1), later);
        x = scene.make();
        x.settles(1);
        Edges.due("settles(0) behind settles(1) of " + what, x.settles(0), behind);
    }

    /**
     * Seven EYES in a ring, by rests of 7: two numbers of each come round again behind 7 times 42
     * TICKS, the third one dies where EYE 0 takes of EYE 6, so that it lives 7 less k TICKS from EYE k on.
     */
    private static TiedViews ring(int k) {
        String same = " 3 by " + ID_3 + " and " + ID_3 + ";";
        TiedViews x = Edges.told(7, Edges.times(7, "eye view 3;"), "tie 0 1" + same + "tie 2 3" + same + "tie 4 5" + same
            + "tie 6 0 3 by 3 1 0,0 3 0,0 0 0 and " + ID_3 + ";");
        int[] ties = {3, 0, 0, 1, 1, 2, 2};
        for (int i = 0; i < 7; i++) {
            x.hear(i, (i + 6) % 7, ties[i]);
        }
        x.now(0, 1, 1);
        if (k < 7) {
            x.now(k, 2, 1);
        }
        return x;
    }

    private static void settlesWithin300() {
        Edges.sentence(23, "SPENT, if that is not within 300 TICKS (behind some and later together)");
        dueSettles("294", () -> ring(7), 0, 294);
        for (int k = 1; k < 7; k++) {
            int eye = k;
            dueSettles("the ring, " + (7 - k), () -> ring(eye), 7 - k, 294);
        }
        dueSettles("the ring, 7: 301 in all", () -> ring(0), NONE, NONE);
        Edges.sentence(23, "SPENT, if that is not within 300 TICKS (later alone)");
        dueSettles("300 later", () -> three(false), 0, 300);
        dueSettles("300 later behind 1", () -> three(true), NONE, NONE);
        Edges.sentence(23, "by TICKS from NOW on");
        TiedViews x = ring(0);
        Edges.due("301 in all", x.settles(0), NONE);
        x.tick(1);
        Edges.due("300 in all, a tick later", x.settles(0), 6);
        Edges.due("294 of them", x.settles(1), 294);
        x.tick(5);
        Edges.due("295 in all, 5 ticks later", x.settles(0), 1);
        x.tick(1);
        Edges.due("294 in all", x.settles(0), 0);
        x.tick(100);
        Edges.due("294 from anywhere", x.settles(1), 294);
    }

    /** A ring of five EYES that comes again behind 5 times 20 TICKS, and EYE 5 behind 3: all behind 300. */
    private static TiedViews three(boolean oneBehind) {
        String same = " 2 by " + ID_2 + " and " + ID_2 + ";";
        TiedViews x = Edges.told(5, Edges.times(7, "eye view 2;"), "tie 0 1" + same + "tie 2 3" + same
            + "tie 4 0 2 by 2 1,0 2 and " + ID_2 + ";tie 5 6 2 by 0 1,4 4 and " + ID_2 + ";");
        int[] ties = {2, 0, 0, 1, 1};
        for (int i = 0; i < 5; i++) {
            x.hear(i, (i + 4) % 5, ties[i]);
        }
        x.hear(5, 5, 3);
        x.now(0, 1, 1);
        x.now(5, 0, 1);
        if (oneBehind) {
            x.hear(6, 5, 3);
        }
        return x;
    }

    private static void settlesAnew() {
        Edges.sentence(23, "what is told, or comes, counts at once");
        TiedViews x = Edges.told(7, "eye view 1;eye view 1;tie 0 1 1 by 3 and 2;");
        Edges.due("no rule", x.settles(1), 1);
        x.hear(0, 0, 0);
        Edges.due("a rule, but 0", x.settles(1), 1);
        x.now(0, 0, 1);
        Edges.due("a number", x.settles(1), 6);
        x.hear(1, 0, 0);
        Edges.due("another rule", x.settles(0), 1);
        x.tick(1);
        Edges.due("a tick", x.settles(0), 0);
        x.now(0, 0, 0);
        Edges.due("0 again", x.settles(0) * 10 + x.settles(1), 11);
        Edges.read(x, "tie 0 1 1 by 1 and 1;eye view 3;");
        Edges.due("a text more", x.settles(0) * 10 + x.settles(1), 11);
    }

    public static void main(String[] args) {
        hearNumbers();
        hearsThatAreFine();
        hear16();
        hearLast();
        nowNumbers();
        nowIsWhatItWas();
        tickNumbers();
        ticksThatCount();
        saysNumbers();
        settlesNumbers();
        settlesWithin300();
        settlesAnew();
        Edges.end("edges of hearsay");
    }
}
