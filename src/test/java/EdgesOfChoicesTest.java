/** The edges of promises 24 (choose) to 26 (fills), and of CHOICES. */
public final class EdgesOfChoicesTest {
    private static final int BAD = Edges.BAD, NONE = Edges.NONE, MIN = Edges.MIN, MAX = Edges.MAX;
    private static final int[] NO_CHOICE = {MIN, -1, 0, 1, 2, 5, 6, 7, 8, MAX};

    /** CHOICES 0 to 3 of 1 to 4 values, without bars. */
    private static TiedViews sizes() {
        return Edges.told(2, "eye choice 1;eye choice 2;eye choice 3;eye choice 4;");
    }

    private static TiedViews eightOf4() {
        return Edges.told(2, Edges.times(8, "eye choice 4;"));
    }

    /** CHOICES 0 and 2 of one value each that do not go together, CHOICE 1 of four that go with all, EYE 3 a view. */
    private static TiedViews noWay() {
        return Edges.told(3, "eye choice 1;eye choice 4;eye choice 1;eye view 1;bar 0 0 2 0;");
    }

    /** Each value of 8 CHOICES of two goes with the same value alone of the ones ahead and behind. */
    private static TiedViews chain() {
        StringBuilder text = new StringBuilder();
        for (int i = 0; i < 7; i++) {
            text.append("bar ").append(i + 1).append(" 0 ").append(i).append(" 1;");
            text.append("bar ").append(i).append(" 0 ").append(i + 1).append(" 1;");
        }
        return Edges.told(2, Edges.times(8, "eye choice 2;"), text.toString());
    }

    // ---- promise 24: choose

    private static void chooseNumbers() {
        Edges.sentence(24, "BAD: a CHOICE");
        for (int i : NO_CHOICE) {
            Edges.refused(Edges::busy, "choose(" + i + ", 1)", BAD, x -> x.choose(i, 1));
        }
        Edges.sentence(24, "BAD: a SET of bits, 1 or more, of its values");
        for (int i = 0; i < 4; i++) {
            int eye = i;
            for (int set : new int[] {MIN, -1, 0, 2 << i, (2 << i) + 1, 16, MAX}) {
                Edges.refused(EdgesOfChoicesTest::sizes, "choose(" + i + ", " + set + ")", BAD, x -> x.choose(eye, set));
            }
        }
        Edges.refused(Edges::busy, "choose(3, 8)", BAD, x -> x.choose(3, 8));
        Edges.refused(Edges::busy, "choose(3, 0)", BAD, x -> x.choose(3, 0));
    }

    private static void chooseAllSets() {
        Edges.sentence(24, "the SET of a CHOICE becomes one: what it was");
        for (int i = 0; i < 4; i++) {
            TiedViews x = sizes();
            int was = (2 << i) - 1;
            for (int set = 1; set < 2 << i; set++) {
                Edges.due("choose(" + i + ", " + set + ")", x.choose(i, set), was);
                Edges.due("set", x.eye(i, 5), set);
                was = set;
            }
        }
        Edges.sentence(24, "a SET need not lie in what it was");
        TiedViews x = sizes();
        x.choose(3, 8);
        Edges.due("one bit for another", x.choose(3, 7), 8);
        Edges.due("all again", x.choose(3, 15), 7);
        Edges.sentence(24, "what it was may be 0");
        x = noWay();
        x.narrow();
        Edges.due("set 0", x.choose(0, 1), 0);
        Edges.due("set 1", x.choose(1, 9), 0);
        Edges.due("set 1 again", x.choose(1, 9), 9);
        Edges.sentence(24, "one SET alone is changed, and status() is not");
        x = Edges.busy();
        x.drop(7);
        x.choose(4, 2);
        Edges.due("the other set", x.eye(3, 5), 5);
        Edges.due("status", x.status(), 1);
    }

    // ---- promise 25: narrow

    private static void narrowOfNothing() {
        Edges.sentence(25, "nothing goes: 0");
        Edges.asks(() -> new TiedViews(2), "narrow() of nothing", 0, x -> x.narrow());
        Edges.asks(Edges::full, "narrow() without choices", 0, x -> x.narrow());
        Edges.asks(() -> Edges.told(2, "eye choice 1;"), "narrow() of one", 0, x -> x.narrow());
        Edges.asks(EdgesOfChoicesTest::sizes, "narrow() without bars", 0, x -> x.narrow());
        Edges.asks(EdgesOfChoicesTest::chain, "narrow() of what goes with one each", 0, x -> x.narrow());
    }

    private static void narrowToNothing() {
        Edges.sentence(25, "all values go");
        TiedViews x = noWay();
        Edges.due("narrow", x.narrow(), 6);
        for (int i = 0; i < 3; i++) {
            Edges.due("set " + i, x.eye(i, 5), 0);
        }
        Edges.due("nothing more", x.narrow(), 0);
        x = Edges.told(2, Edges.times(8, "eye choice 4;"), "bar 0 0 7 0;bar 0 0 7 1;bar 0 0 7 2;bar 0 0 7 3;");
        Edges.due("one of 32", x.narrow(), 1);
        x.choose(0, 1);
        Edges.due("the other 28 and itself", x.narrow(), 29);
        Edges.due("none is left", x.narrow(), 0);
        Edges.due("no way", x.fills(-1), 0);
        Edges.sentence(25, "a CHOICE without values takes all values with it");
        x.choose(1, 15);
        Edges.due("the four", x.narrow(), 4);
    }

    private static void narrowOverAndOver() {
        Edges.sentence(25, "over and over, until nothing changes");
        TiedViews x = chain();
        x.choose(0, 1);
        Edges.due("one each of 7, onwards", x.narrow(), 7);
        for (int i = 0; i < 8; i++) {
            Edges.due("set " + i, x.eye(i, 5), 1);
        }
        x = chain();
        x.choose(7, 2);
        Edges.due("one each of 7, backwards", x.narrow(), 7);
        for (int i = 0; i < 8; i++) {
            Edges.due("set " + i, x.eye(i, 5), 2);
        }
        narrowRoundAndRound();
        Edges.sentence(25, "barred in either order of the bar");
        for (String bar : new String[] {"bar 0 1 1 0;bar 0 1 1 1;", "bar 1 0 0 1;bar 1 1 0 1;", "bar 0 1 1 0;bar 1 1 0 1;"}) {
            x = Edges.told(2, "eye choice 2;eye choice 2;", bar);
            Edges.due("narrow by " + bar, x.narrow(), 1);
            Edges.due("set", x.eye(0, 5) * 10 + x.eye(1, 5), 13);
        }
        Edges.sentence(25, "none in its SET, not none of its values");
        x = Edges.told(2, "eye choice 2;eye choice 2;bar 0 0 1 0;");
        Edges.due("with all values", x.narrow(), 0);
        x.choose(1, 1);
        Edges.due("with one", x.narrow(), 1);
        Edges.due("set", x.eye(0, 5), 2);
        Edges.sentence(25, "with some CHOICE none, though with others there are");
        x = Edges.told(2, "eye choice 2;eye choice 2;eye choice 1;bar 0 0 2 0;");
        Edges.due("narrow", x.narrow(), 1);
        Edges.due("sets", x.eye(0, 5) * 100 + x.eye(1, 5) * 10 + x.eye(2, 5), 231);
        Edges.sentence(25, "status() stays");
        x.drop(0);
        x.narrow();
        Edges.due("status", x.status(), 1);
    }

    /** From CHOICE 7 down to 0 the values 0 go one by one, then the values 1: each is seen by CHOICES only a round later. */
    private static void narrowRoundAndRound() {
        StringBuilder text = new StringBuilder("bar 7 1 0 1;bar 7 1 0 2;");
        for (int i = 0; i < 7; i++) {
            text.append("bar ").append(i).append(" 0 ").append(i + 1).append(" 1;");
            text.append("bar ").append(i).append(" 0 ").append(i + 1).append(" 2;");
            text.append("bar ").append(i).append(" 1 ").append(i + 1).append(" 2;");
        }
        TiedViews x = Edges.told(2, Edges.times(8, "eye choice 3;"), text.toString());
        Edges.due("nothing goes yet", x.narrow(), 0);
        x.choose(7, 6);
        Edges.due("15 values, in 14 rounds", x.narrow(), 15);
        for (int i = 0; i < 8; i++) {
            Edges.due("set " + i, x.eye(i, 5), 4);
        }
    }

    // ---- promise 26: fills

    private static void fillsNumbers() {
        Edges.sentence(26, "BAD: EYE");
        for (int i : NO_CHOICE) {
            if (i != -1) {
                Edges.refused(Edges::busy, "fills(" + i + ")", BAD, x -> x.fills(i));
            }
        }
        Edges.refused(Edges::busy, "fills(-2)", BAD, x -> x.fills(-2));
        Edges.refused(Edges::full, "fills(0) without choices", BAD, x -> x.fills(0));
        Edges.sentence(26, "BAD goes ahead of NONE");
        Edges.refused(EdgesOfChoicesTest::noWay, "fills(3), a view", BAD, x -> x.fills(3));
        Edges.refused(EdgesOfChoicesTest::noWay, "fills(4)", BAD, x -> x.fills(4));
        Edges.refused(EdgesOfChoicesTest::noWay, "fills(-2)", BAD, x -> x.fills(-2));
    }

    private static void fillsWays() {
        Edges.sentence(26, "without CHOICES 1");
        Edges.asks(() -> new TiedViews(2), "fills(-1) of nothing", 1, x -> x.fills(-1));
        Edges.asks(Edges::full, "fills(-1) of views", 1, x -> x.fills(-1));
        Edges.sentence(26, "as many as there may be");
        Edges.asks(EdgesOfChoicesTest::eightOf4, "fills(-1)", 65536, x -> x.fills(-1));
        for (int i = 0; i < 8; i++) {
            int eye = i;
            Edges.asks(EdgesOfChoicesTest::eightOf4, "fills(" + i + ")", 0, x -> x.fills(eye));
        }
        Edges.asks(EdgesOfChoicesTest::sizes, "fills(-1) of 1 to 4", 24, x -> x.fills(-1));
        Edges.asks(() -> Edges.told(2, "eye choice 1;"), "fills(-1) of one", 1, x -> x.fills(-1));
        Edges.sentence(26, "a value of its SET, no two barred");
        Edges.asks(Edges::busy, "fills(-1)", 2, x -> x.fills(-1));
        TiedViews x = chain();
        Edges.due("all 0 or all 1", x.fills(-1), 2);
        x.choose(3, 2);
        Edges.due("all 1", x.fills(-1), 1);
        x.choose(5, 1);
        Edges.due("none", x.fills(-1), 0);
        x = eightOf4();
        x.choose(7, 8);
        x.choose(0, 6);
        Edges.due("by sets", x.fills(-1), 2 * 4096);
        Edges.sentence(26, "FILLS may be none though nothing can be NARROWED");
        x = Edges.told(2, "eye choice 2;eye choice 2;eye choice 2;bar 0 0 1 0;bar 0 1 1 1;bar 1 0 2 0;bar 1 1 2 1;"
            + "bar 0 0 2 0;bar 0 1 2 1;");
        Edges.due("narrow", x.narrow(), 0);
        Edges.due("ways", x.fills(-1), 0);
        Edges.due("the first", x.fills(0), NONE);
    }

    private static void fillsNone() {
        Edges.sentence(26, "NONE: there is none");
        Edges.asks(EdgesOfChoicesTest::noWay, "fills(-1)", 0, x -> x.fills(-1));
        for (int i = 0; i < 3; i++) {
            int eye = i;
            Edges.asks(EdgesOfChoicesTest::noWay, "fills(" + i + ")", NONE, x -> x.fills(eye));
        }
        Edges.sentence(26, "an empty SET leaves no way");
        TiedViews x = noWay();
        x.narrow();
        x.choose(0, 1);
        x.choose(2, 1);
        Edges.due("with one empty", x.fills(-1), 0);
        Edges.due("the first with one empty", x.fills(1), NONE);
        for (int empty = 0; empty < 3; empty++) {
            for (String bar : new String[] {"bar 0 0 1 0;", "bar 1 0 2 0;", "bar 0 0 2 0;"}) {
                x = Edges.told(2, "eye choice 2;eye choice 2;eye choice 2;", bar);
                // The two that are barred choose that, so that all go; then but one is left without values.
                x.choose(bar.charAt(4) - '0', 1);
                x.choose(bar.charAt(8) - '0', 1);
                Edges.due("all go by " + bar, x.narrow(), 4);
                for (int i = 0; i < 3; i++) {
                    if (i != empty) {
                        Edges.due("choose", x.choose(i, 2), 0);
                    }
                }
                Edges.due("ways, " + empty + " empty, by " + bar, x.fills(-1), 0);
                Edges.due("the first, " + empty + " empty, by " + bar, x.fills((empty + 1) % 3), NONE);
            }
        }
    }

    private static void fillsFirst() {
        Edges.sentence(26, "THE FIRST (by CHOICES, the least values)");
        TiedViews x = Edges.busy();
        Edges.due("busy", x.fills(3) * 10 + x.fills(4), 1);
        x = Edges.told(2, "eye choice 4;eye view 1;eye choice 4;bar 0 0 2 0;bar 0 0 2 1;bar 0 0 2 2;bar 0 0 2 3;bar 0 1 2 0;");
        Edges.due("the least of 0 goes with none", x.fills(0) * 10 + x.fills(2), 11);
        x.choose(2, 1);
        Edges.due("the next goes with none then", x.fills(0) * 10 + x.fills(2), 20);
        x.choose(0, 8);
        Edges.due("the last of 0", x.fills(0) * 10 + x.fills(2), 30);
        x.choose(2, 8);
        Edges.due("the last of both", x.fills(0) * 10 + x.fills(2), 33);
        Edges.sentence(26, "THE FIRST, where the least values lead nowhere only later");
        // Value 0 of CHOICE 0 leaves values to both of the others, but none that go together.
        x = Edges.told(2, "eye choice 2;eye choice 3;eye choice 3;bar 0 0 1 2;bar 0 0 2 2;bar 1 0 2 0;bar 1 0 2 1;"
            + "bar 1 1 2 0;bar 1 1 2 1;");
        Edges.due("ways", x.fills(-1), 5);
        Edges.due("the first", x.fills(0) * 100 + x.fills(1) * 10 + x.fills(2), 102);
        Edges.sentence(26, "the earlier CHOICE goes ahead of the later");
        x = Edges.told(2, "eye choice 2;eye choice 3;bar 0 0 1 0;bar 0 0 1 1;");
        Edges.due("0 with 2, not 1 with 0", x.fills(0) * 10 + x.fills(1), 2);
        Edges.due("asked in the other order", x.fills(1) + x.fills(0) * 10, 2);
        Edges.sentence(26, "what is told, chosen or NARROWED counts at once");
        Edges.due("ways", x.fills(-1), 4);
        Edges.read(x, "bar 1 2 0 0;");
        Edges.due("a bar more", x.fills(-1), 3);
        Edges.due("the first then", x.fills(0) * 10 + x.fills(1), 10);
        Edges.read(x, "eye choice 3;");
        Edges.due("a choice more", x.fills(-1), 9);
        x.choose(2, 6);
        Edges.due("chosen", x.fills(-1), 6);
        Edges.due("its first", x.fills(2), 1);
        Edges.due("narrowed", x.narrow(), 1);
        Edges.due("the same ways", x.fills(-1), 6);
    }

    public static void main(String[] args) {
        chooseNumbers();
        chooseAllSets();
        narrowOfNothing();
        narrowToNothing();
        narrowOverAndOver();
        fillsNumbers();
        fillsWays();
        fillsNone();
        fillsFirst();
        Edges.end("edges of choices");
    }
}
