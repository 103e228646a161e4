/** The edges of promises 10 (all) to 18 (cost), and of the terms that they use. */
public final class EdgesOfAgreementTest {
    private static final int BAD = Edges.BAD, NONE = Edges.NONE, NULL = Edges.NULL, PLACE = Edges.PLACE;
    private static final int MIN = Edges.MIN, MAX = Edges.MAX;
    private static final String PAIR = "eye view 1;eye view 1;";
    private static final String EIGHT = Edges.times(8, "eye view 3;");
    private static final String NOUGHTS = "0 0 0,0 0 0,0 0 0";
    private static final String ONES = "1 0 0,0 1 0,0 0 1";

    /** The first of the two holds 0 at all its numbers. */
    private static String pin(int eye, int other) {
        return "tie " + eye + " " + other + " 3 by " + ONES + " and " + NOUGHTS + ";";
    }

    private static String pins(int from, int to) {
        StringBuilder text = new StringBuilder();
        for (int i = from; i < to; i++) {
            text.append(pin(i % 8, (i + 1) % 8));
        }
        return text.toString();
    }

    private static TiedViews free24() {
        return Edges.told(7, EIGHT);
    }

    private static TiedViews noughts30() {
        String tie = "tie 6 7 3 by " + NOUGHTS + " and " + NOUGHTS + ";";
        return Edges.told(7, EIGHT, Edges.times(5, tie), Edges.times(5, tie));
    }

    private static TiedViews pinned30() {
        return Edges.told(7, EIGHT, pins(0, 5), pins(5, 10));
    }

    /** READINGS that do not FIT: EYES 0 and 1 hold the same, but are read as 1 and 2; EYE 2 is apart. */
    private static TiedViews unfit() {
        TiedViews x = Edges.told(5, "eye view 1;eye mod 1;eye held 1;eye choice 2;tie 0 1 1 by 1 and 1;");
        Edges.reads(x, 0, 1);
        Edges.reads(x, 1, 2);
        return Edges.reads(x, 2, 3);
    }

    private static TiedViews choicesAlone() {
        return Edges.told(3, "eye choice 2;eye choice 4;");
    }

    private static void dueAll(String what, TiedViews x, int... dues) {
        for (int i = 0; i < 5; i++) {
            Edges.due("all(" + i + ") of " + what, x.all(i), dues[i]);
        }
    }

    // ---- promise 10: all

    private static void allNumbers() {
        Edges.sentence(10, "BAD: what (0 to 4)");
        for (int what : new int[] {MIN, -1, 5, 6, MAX}) {
            Edges.refused(Edges::busy, "all(" + what + ")", BAD, x -> x.all(what));
        }
        Edges.sentence(10, "FREE, COLUMNS, LINES, LEADERS, HOLES");
        int[] dues = {2, 8, 6, 6, 0};
        for (int i = 0; i < 5; i++) {
            int what = i;
            Edges.asks(Edges::busy, "all(" + i + ")", dues[i], x -> x.all(what));
        }
    }

    private static void allExtremes() {
        Edges.sentence(10, "nothing, and CHOICES alone");
        dueAll("nothing", new TiedViews(2), 0, 0, 0, 0, 0);
        dueAll("choices", choicesAlone(), 0, 0, 0, 0, 0);
        Edges.sentence(10, "COLUMNS without LINES are FREE");
        dueAll("24 columns", free24(), 24, 24, 0, 0, 0);
        dueAll("one column", Edges.told(2, "eye view 1;"), 1, 1, 0, 0, 0);
        Edges.sentence(10, "LINES of noughts are HOLES");
        dueAll("30 lines of noughts", noughts30(), 24, 24, 30, 0, 30);
        Edges.sentence(10, "no COLUMN is FREE");
        dueAll("24 leaders", Edges.told(7, EIGHT, pins(0, 4), pins(4, 8)), 0, 24, 24, 24, 0);
        dueAll("30 lines, 24 leaders", pinned30(), 0, 24, 30, 24, 6);
        Edges.sentence(10, "READINGS change none of it");
        dueAll("unfit readings", unfit(), 2, 3, 1, 1, 0);
        Edges.sentence(10, "a TIE that is told again is a HOLE");
        dueAll("a tie", Edges.told(3, PAIR, "tie 0 1 1 by 1 and 2;"), 1, 2, 1, 1, 0);
        dueAll("a tie twice", Edges.told(3, PAIR, "tie 0 1 1 by 1 and 2;tie 0 1 1 by 2 and 1;"), 1, 2, 2, 1, 1);
        dueAll("a tie and another", Edges.told(3, PAIR, "tie 0 1 1 by 1 and 2;tie 0 1 1 by 1 and 1;"), 0, 2, 2, 2, 0);
    }

    // ---- promise 11: basis

    private static void basisNumbers() {
        Edges.sentence(11, "BAD: COLUMN");
        for (int c : new int[] {MIN, -1, 8, 9, 24, MAX}) {
            Edges.refused(Edges::busy, "basis(0, " + c + ")", BAD, x -> x.basis(0, c));
        }
        Edges.refused(EdgesOfAgreementTest::choicesAlone, "basis(0, 0) without columns", BAD, x -> x.basis(0, 0));
        Edges.refused(EdgesOfAgreementTest::free24, "basis(0, 24)", BAD, x -> x.basis(0, 24));
        Edges.sentence(11, "BAD: k below 0");
        for (int k : new int[] {MIN, -2, -1}) {
            Edges.refused(Edges::busy, "basis(" + k + ", 0)", BAD, x -> x.basis(k, 0));
        }
        Edges.sentence(11, "NONE: there are not so many");
        for (int k : new int[] {2, 3, 24, MAX}) {
            Edges.asks(Edges::busy, "basis(" + k + ", 0)", NONE, x -> x.basis(k, 0));
            Edges.asks(Edges::busy, "basis(" + k + ", 7)", NONE, x -> x.basis(k, 7));
        }
        Edges.asks(EdgesOfAgreementTest::pinned30, "basis(0, 0) of none", NONE, x -> x.basis(0, 0));
        Edges.asks(EdgesOfAgreementTest::free24, "basis(24, 0)", NONE, x -> x.basis(24, 0));
        Edges.sentence(11, "BAD goes ahead of NONE");
        Edges.refused(Edges::busy, "basis(2, 8)", BAD, x -> x.basis(2, 8));
        Edges.refused(Edges::busy, "basis(2, -1)", BAD, x -> x.basis(2, -1));
        Edges.refused(EdgesOfAgreementTest::pinned30, "basis(-1, 0)", BAD, x -> x.basis(-1, 0));
    }

    private static void basisRows() {
        Edges.sentence(11, "1 at the k-th FREE COLUMN, 0 at other FREE ones");
        for (int k = 0; k < 24; k++) {
            TiedViews x = free24();
            for (int c = 0; c < 24; c++) {
                Edges.due("basis(" + k + ", " + c + ")", x.basis(k, c), k == c ? 1 : 0);
            }
        }
        Edges.sentence(11, "so that it AGREES");
        // 2 times COLUMN 0 and COLUMN 1 are 3 times COLUMN 2, by rests of 5: the first is led.
        TiedViews x = Edges.told(5, "eye view 2;eye view 1;tie 0 1 1 by 2 1 and 3;");
        int[][] dues = {{2, 1, 0}, {4, 0, 1}};
        for (int k = 0; k < 2; k++) {
            for (int c = 0; c < 3; c++) {
                Edges.due("basis(" + k + ", " + c + ")", x.basis(k, c), dues[k][c]);
            }
        }
        Edges.sentence(11, "a FREE COLUMN may lie ahead of a LEADER's");
        x = Edges.told(5, "eye view 2;eye view 1;tie 0 1 1 by 0 1 and 3;");
        int[][] ahead = {{1, 0, 0}, {0, 3, 1}};
        for (int k = 0; k < 2; k++) {
            for (int c = 0; c < 3; c++) {
                Edges.due("basis(" + k + ", " + c + ")", x.basis(k, c), ahead[k][c]);
            }
        }
    }

    // ---- promise 12: reading

    private static void readingNumbers() {
        Edges.sentence(12, "BAD: EYE (a choice)");
        for (int i : new int[] {MIN, -1, 3, 4, 6, 7, 8, MAX}) {
            Edges.refused(Edges::busy, "reading(" + i + ", 0, 0)", BAD, x -> x.reading(i, 0, 0));
            Edges.refused(Edges::busy, "reading of a missing one, eye " + i, BAD, x -> x.reading(i, 5, 0));
        }
        Edges.sentence(12, "BAD: SHEET");
        for (int s : Edges.NO_SHEETS) {
            Edges.refused(Edges::busy, "reading(0, " + s + ", 0)", BAD, x -> x.reading(0, s, 0));
        }
        Edges.sentence(12, "NULL");
        for (int s = 5; s < 8; s++) {
            int sheet = s;
            Edges.refused(Edges::busy, "reading(0, " + s + ", 0)", NULL, x -> x.reading(0, sheet, 0));
            Edges.refused(Edges::busy, "reading(1, " + s + ", -1)", NULL, x -> x.reading(1, sheet, -1));
        }
    }

    private static void readingPlaces() {
        Edges.sentence(12, "PLACE: as many ITEMS from i on as it has numbers");
        for (int i : new int[] {MIN, -1, 5, 6, MAX, MAX - 1}) {
            Edges.refused(Edges::busy, "reading(2, 0, " + i + ") of 1", PLACE, x -> x.reading(2, 0, i));
        }
        for (int i : new int[] {MIN, -1, 4, 5, 6, MAX}) {
            Edges.refused(Edges::busy, "reading(0, 0, " + i + ") of 2", PLACE, x -> x.reading(0, 0, i));
        }
        for (int i : new int[] {MIN, -1, 3, 4, 5, MAX}) {
            Edges.refused(Edges::busy, "reading(5, 0, " + i + ") of 3", PLACE, x -> x.reading(5, 0, i));
        }
        Edges.refused(Edges::busy, "reading(2, 3, 0) of an empty sheet", PLACE, x -> x.reading(2, 3, 0));
        Edges.sentence(12, "up to the end of a SHEET: 1");
        Edges.due("the last of 5", Edges.busy().reading(2, 0, 4), 1);
        Edges.due("the last 2 of 5", Edges.busy().reading(0, 0, 3), 1);
        Edges.due("the last 3 of 5", Edges.busy().reading(5, 0, 2), 1);
        Edges.due("the last 3 of 40", Edges.busy().reading(5, 2, 37), 1);
        Edges.due("the first 3 of 40", Edges.busy().reading(5, 2, 0), 1);
        Edges.sentence(12, "PLACE goes ahead of an ITEM that is no rest");
        Edges.refused(Edges::busy, "reading(0, 4, 4)", PLACE, x -> x.reading(0, 4, 4));
        Edges.refused(Edges::busy, "reading(5, 4, 3)", PLACE, x -> x.reading(5, 4, 3));
    }

    private static void readingItems() {
        Edges.sentence(12, "then BAD: an ITEM is no rest");
        // SHEET 4 has 6, 0, 1, -1, 7.
        Edges.refused(Edges::busy, "reading of -1", BAD, x -> x.reading(2, 4, 3));
        Edges.refused(Edges::busy, "reading of 7", BAD, x -> x.reading(2, 4, 4));
        Edges.refused(Edges::busy, "reading of 1, -1", BAD, x -> x.reading(0, 4, 2));
        Edges.refused(Edges::busy, "reading of -1, 7", BAD, x -> x.reading(1, 4, 3));
        Edges.refused(Edges::busy, "reading of 0, 1, -1", BAD, x -> x.reading(5, 4, 1));
        Edges.refused(Edges::busy, "reading of 1, -1, 7", BAD, x -> x.reading(5, 4, 2));
        Edges.sentence(12, "an ITEM that it does not take may be no rest");
        Edges.due("6, 0, 1", Edges.busy().reading(5, 4, 0), 1);
        Edges.due("0, 1", Edges.busy().reading(0, 4, 1), 1);
        Edges.sentence(12, "rests go from 0 to THE PRIME less 1");
        for (int p : Edges.PRIMES) {
            TiedViews x = Edges.told(p, "eye view 1;");
            Edges.items(x, 0, 2, 0, p - 1, p, -1, MIN, MAX);
            int[] dues = {1, 1, BAD, BAD, BAD, BAD};
            for (int i = 0; i < 6; i++) {
                Edges.due("item " + i + " by " + p, x.reading(0, 0, i), dues[i]);
            }
            Edges.due("the reading that is left by " + p, x.fill(0), p - 1);
        }
        Edges.sentence(12, "a LANE's lowest bits are what is read");
        TiedViews x = Edges.told(7, "eye view 1;");
        Edges.items(x, 0, 0, 256 + 6, 255);
        Edges.due("262 as a byte", x.reading(0, 0, 0), 1);
        Edges.due("it is 6", x.fill(0), 6);
        Edges.due("255 as a byte", x.reading(0, 0, 1), BAD);
    }

    private static void readingAgain() {
        Edges.sentence(12, "an EYE has one READING or none");
        TiedViews x = Edges.told(7, "eye view 2;");
        Edges.items(x, 0, 2, 1, 2, 3);
        x.reading(0, 0, 0);
        Edges.due("readings", x.count(4), 1);
        x.reading(0, 0, 1);
        Edges.due("readings", x.count(4), 1);
        Edges.due("the later one", x.fill(0) * 10 + x.fill(1), 23);
        Edges.sentence(12, "the ITEMS as they are when it is read");
        x.set(0, 1, 6);
        Edges.due("the sheet is changed", x.fill(0) * 10 + x.fill(1), 23);
        x.sheet(0, 0, 0);
        Edges.due("the sheet is made anew", x.fill(0) * 10 + x.fill(1), 23);
        x.drop(0);
        Edges.due("the sheet is dropped", x.fill(0) * 10 + x.fill(1), 23);
    }

    // ---- promise 13: unread

    private static void unreads() {
        Edges.sentence(13, "BAD: EYE (a choice)");
        for (int i : new int[] {MIN, -1, 3, 4, 6, 7, 8, MAX}) {
            Edges.refused(Edges::busy, "unread(" + i + ")", BAD, x -> x.unread(i));
        }
        Edges.sentence(13, "0: it had none");
        Edges.asks(Edges::busy, "unread(1)", 0, x -> x.unread(1));
        Edges.asks(Edges::busy, "unread(5)", 0, x -> x.unread(5));
        Edges.sentence(13, "an EYE has no READING from now on: 1");
        TiedViews x = Edges.busy();
        x.drop(7);
        Edges.due("unread(0)", x.unread(0), 1);
        Edges.due("status stays", x.status(), 1);
        Edges.due("again", x.unread(0), 0);
        Edges.due("the other one has one still", x.eye(2, 3), 1);
        Edges.due("readings", x.count(4), 1);
        Edges.due("it has none", x.eye(0, 3), 0);
        Edges.due("it can have one again", x.reading(0, 0, 0), 1);
        Edges.sentence(13, "the last of 8, and all 8");
        x = Edges.full();
        for (int i = 7; i >= 0; i--) {
            Edges.due("unread(" + i + ")", x.unread(i), 1);
            Edges.due("readings", x.count(4), i);
        }
    }

    // ---- promise 14: fill

    private static void fillNumbers() {
        Edges.sentence(14, "BAD: below -1, or no COLUMN");
        for (int c : new int[] {MIN, -3, -2, 8, 9, 24, MAX}) {
            Edges.refused(Edges::busy, "fill(" + c + ")", BAD, x -> x.fill(c));
        }
        Edges.refused(EdgesOfAgreementTest::choicesAlone, "fill(0) without columns", BAD, x -> x.fill(0));
        Edges.sentence(14, "BAD goes ahead of NONE");
        Edges.refused(EdgesOfAgreementTest::unfit, "fill(3) of what does not fit", BAD, x -> x.fill(3));
        Edges.refused(EdgesOfAgreementTest::unfit, "fill(-2) of what does not fit", BAD, x -> x.fill(-2));
        Edges.sentence(14, "whether READINGS FIT (column = -1: 1, 0)");
        Edges.asks(EdgesOfAgreementTest::choicesAlone, "fill(-1) without columns", 1, x -> x.fill(-1));
        Edges.asks(EdgesOfAgreementTest::free24, "fill(-1) without readings", 1, x -> x.fill(-1));
        Edges.asks(EdgesOfAgreementTest::pinned30, "fill(-1) of all pinned", 1, x -> x.fill(-1));
        Edges.asks(Edges::busy, "fill(-1)", 1, x -> x.fill(-1));
        Edges.asks(EdgesOfAgreementTest::unfit, "fill(-1) of what does not fit", 0, x -> x.fill(-1));
        Edges.sentence(14, "NONE: they do not");
        for (int c = 0; c < 3; c++) {
            int column = c;
            Edges.asks(EdgesOfAgreementTest::unfit, "fill(" + c + ")", NONE, x -> x.fill(column));
        }
    }

    private static void fillRows() {
        Edges.sentence(14, "THE FILL has 0 at FREE COLUMNS");
        TiedViews x = free24();
        for (int c = 0; c < 24; c++) {
            Edges.due("fill(" + c + ") without readings", x.fill(c), 0);
        }
        x = Edges.told(5, "eye view 2;eye view 1;tie 0 1 1 by 1 2 and 3;");
        Edges.reads(x, 1, 4);
        Edges.due("what leads, is free, is read", x.fill(0) * 100 + x.fill(1) * 10 + x.fill(2), 204);
        Edges.sentence(14, "24 COLUMNS, all read");
        x = free24();
        for (int i = 0; i < 8; i++) {
            Edges.reads(x, i, i % 7, (i + 3) % 7, 6);
        }
        for (int c = 0; c < 24; c++) {
            Edges.due("fill(" + c + ")", x.fill(c), c % 3 == 0 ? c / 3 % 7 : c % 3 == 1 ? (c / 3 + 3) % 7 : 6);
        }
        Edges.due("it fits", x.fill(-1), 1);
        Edges.sentence(14, "TIES alone can be what does not FIT with one READING");
        x = Edges.told(3, PAIR, "tie 0 1 1 by 1 and 0;");
        Edges.reads(x, 0, 0);
        Edges.due("0 fits", x.fill(-1), 1);
        Edges.reads(x, 0, 1);
        Edges.due("1 does not", x.fill(-1), 0);
        x.unread(0);
        Edges.due("none fits", x.fill(-1), 1);
        Edges.sentence(14, "what is told later counts for READINGS");
        Edges.reads(x, 1, 2);
        Edges.due("ahead", x.fill(-1) * 10 + x.fill(1), 12);
        Edges.read(x, "tie 1 0 1 by 1 and 0;");
        Edges.due("behind", x.fill(-1), 0);
    }

    // ---- promise 15: fixed

    private static void fixedNumbers() {
        Edges.sentence(15, "BAD: no COLUMN");
        for (int c : new int[] {MIN, -2, -1, 8, 9, 24, MAX}) {
            Edges.refused(Edges::busy, "fixed(" + c + ")", BAD, x -> x.fixed(c));
        }
        Edges.refused(EdgesOfAgreementTest::choicesAlone, "fixed(0) without columns", BAD, x -> x.fixed(0));
        Edges.refused(EdgesOfAgreementTest::unfit, "fixed(3) of what does not fit", BAD, x -> x.fixed(3));
        Edges.refused(EdgesOfAgreementTest::unfit, "fixed(-1) of what does not fit", BAD, x -> x.fixed(-1));
        Edges.sentence(15, "where they FIT: NONE, if they do not");
        for (int c = 0; c < 3; c++) {
            int column = c;
            Edges.asks(EdgesOfAgreementTest::unfit, "fixed(" + c + ")", NONE, x -> x.fixed(column));
        }
    }

    private static void fixedColumns() {
        Edges.sentence(15, "NONE: it is not FIXED");
        TiedViews x = free24();
        for (int c = 0; c < 24; c++) {
            Edges.due("fixed(" + c + ") of all free", x.fixed(c), NONE);
        }
        x = Edges.told(5, "eye view 2;eye view 1;tie 0 1 1 by 1 2 and 3;");
        Edges.due("free", x.fixed(1), NONE);
        Edges.due("led, but not 0 at a free one", x.fixed(0), NONE);
        Edges.reads(x, 1, 4);
        Edges.due("led, but not 0 at a free one still", x.fixed(0), NONE);
        Edges.due("read", x.fixed(2), 4);
        Edges.sentence(15, "FIXED without any READING");
        x = pinned30();
        for (int c = 0; c < 24; c++) {
            Edges.due("fixed(" + c + ") of all pinned", x.fixed(c), 0);
        }
        Edges.sentence(15, "fixing some EYES fixes others");
        Edges.Scene chain = () -> Edges.reads(Edges.told(7, "eye view 1;eye view 1;eye view 1;eye view 1;"
            + "tie 0 1 1 by 1 and 2;tie 1 2 1 by 1 and 2;"), 2, 6);
        int[] dues = {3, 5, 6, NONE};
        for (int c = 0; c < 4; c++) {
            int column = c;
            Edges.asks(chain, "fixed(" + c + ")", dues[c], y -> y.fixed(column));
        }
        x = chain.make();
        x.unread(2);
        Edges.due("no more", x.fixed(0), NONE);
    }

    // ---- promise 16: fewest

    private static void fewestOfNone() {
        Edges.sentence(16, "nothing to drop: 0");
        Edges.asks(() -> new TiedViews(2), "fewest() of nothing", 0, x -> x.fewest());
        Edges.asks(EdgesOfAgreementTest::choicesAlone, "fewest() without columns", 0, x -> x.fewest());
        Edges.asks(EdgesOfAgreementTest::pinned30, "fewest() without readings", 0, x -> x.fewest());
        Edges.asks(Edges::busy, "fewest() of what fits", 0, x -> x.fewest());
        Edges.asks(Edges::full, "fewest() of 8 that fit", 0, x -> x.fewest());
    }

    private static void fewestOf24() {
        Edges.sentence(16, "24 FREE COLUMNS, all read: 0");
        TiedViews x = free24();
        for (int i = 0; i < 8; i++) {
            Edges.reads(x, i, 6 - i % 7, i % 7, 1);
            Edges.due("fewest() of " + (i + 1), x.fewest(), 0);
        }
    }

    private static void fewestOfAll() {
        Edges.sentence(16, "all 8 READINGS to drop: 255");
        TiedViews x = Edges.told(2, Edges.times(8, "eye view 1;"), "tie 0 1 1 by 1 and 0;tie 2 1 1 by 1 and 0;"
            + "tie 3 1 1 by 1 and 0;tie 4 1 1 by 1 and 0;tie 5 1 1 by 1 and 0;tie 6 1 1 by 1 and 0;tie 7 1 1 by 1 and 0;"
            + "tie 1 0 1 by 1 and 0;");
        for (int i = 0; i < 8; i++) {
            Edges.reads(x, i, 1);
            Edges.due("the first " + (i + 1), x.fewest(), (2 << i) - 1);
        }
        Edges.due("the readings stay", x.count(4), 8);
        for (int i = 0; i < 8; i++) {
            Edges.reads(x, i, 0);
            Edges.due("but the first " + (i + 1), x.fewest(), 255 - ((2 << i) - 1));
        }
    }

    private static void fewestOfSeveral() {
        Edges.sentence(16, "of several sets of EYES the least as a number");
        Edges.asks(EdgesOfAgreementTest::unfit, "fewest() of 0 and 1", 1, x -> x.fewest());
        TiedViews x = Edges.told(5, Edges.times(8, "eye view 1;"), "tie 6 7 1 by 1 and 1;tie 4 2 1 by 1 and 1;");
        Edges.reads(x, 6, 1);
        Edges.reads(x, 7, 2);
        Edges.due("6 of 6 and 7", x.fewest(), 64);
        Edges.reads(x, 2, 3);
        Edges.reads(x, 4, 4);
        Edges.due("2 of 2 and 4, too", x.fewest(), 64 + 4);
        Edges.sentence(16, "the fewest go ahead of the least");
        x = Edges.told(3, Edges.times(4, "eye view 1;"), "tie 0 3 1 by 1 and 1;tie 1 3 1 by 1 and 1;tie 2 3 1 by 1 and 1;");
        Edges.reads(x, 0, 1);
        Edges.reads(x, 1, 1);
        Edges.reads(x, 2, 1);
        Edges.reads(x, 3, 2);
        Edges.due("3 alone, not 0, 1 and 2", x.fewest(), 8);
        Edges.reads(x, 2, 2);
        Edges.due("0 and 1, not 2 and 3", x.fewest(), 3);
        Edges.sentence(16, "EYES that hold a number several times over");
        x = Edges.told(7, "eye view 1;eye view 1;eye view 1;tie 0 2 1 by 1 and 2;tie 1 2 1 by 1 and 3;");
        Edges.reads(x, 0, 4);
        Edges.reads(x, 1, 6);
        Edges.due("twice 2 and three times 2", x.fewest(), 0);
        Edges.reads(x, 0, 5);
        Edges.due("not twice 2", x.fewest(), 1);
        Edges.sentence(16, "what is told, read or unread counts at once");
        x.unread(1);
        Edges.due("one reading", x.fewest(), 0);
        Edges.read(x, "tie 0 1 1 by 1 and 0;");
        Edges.due("a tie more", x.fewest(), 1);
        Edges.reads(x, 0, 0);
        Edges.due("another reading", x.fewest(), 0);
        Edges.sentence(16, "an EYE with one number that does not FIT is dropped whole");
        x = Edges.told(7, "eye view 3;eye view 3;tie 0 1 1 by 0 0 1 and 0 0 0;");
        Edges.reads(x, 0, 1, 1, 0);
        Edges.due("it fits", x.fewest(), 0);
        Edges.reads(x, 0, 0, 0, 6);
        Edges.due("it does not", x.fewest(), 1);
    }

    // ---- promise 17: met

    private static void metNumbers() {
        Edges.sentence(17, "BAD: SHEET");
        for (int s : Edges.NO_SHEETS) {
            Edges.refused(Edges::busy, "met(" + s + ", 0, -1)", BAD, x -> x.met(s, 0, -1));
        }
        Edges.sentence(17, "BAD: k (-1 to LINES less 1)");
        for (int k : new int[] {MIN, -2, 6, 7, 30, MAX}) {
            Edges.refused(Edges::busy, "met(2, 0, " + k + ")", BAD, x -> x.met(2, 0, k));
            Edges.refused(Edges::busy, "met of a missing one, " + k, BAD, x -> x.met(5, 0, k));
            Edges.refused(Edges::busy, "met beyond the end, " + k, BAD, x -> x.met(2, 99, k));
        }
        Edges.refused(EdgesOfAgreementTest::withZeros, "met(0, 0, 30) of 30 lines", BAD, x -> x.met(0, 0, 30));
        Edges.sentence(17, "NULL");
        for (int s = 5; s < 8; s++) {
            int sheet = s;
            Edges.refused(Edges::busy, "met(" + s + ", 0, -1)", NULL, x -> x.met(sheet, 0, -1));
            Edges.refused(Edges::busy, "met(" + s + ", -1, 5)", NULL, x -> x.met(sheet, -1, 5));
        }
    }

    private static TiedViews withZeros() {
        TiedViews x = noughts30();
        x.sheet(0, 2, 40);
        x.sheet(1, 2, 30);
        x.sheet(2, 2, 29);
        return x;
    }

    private static void metPlaces() {
        Edges.sentence(17, "PLACE: as many ITEMS from i on as there are LINES");
        // 6 LINES; SHEET 2 has 40 ITEMS, SHEET 0 has 5.
        for (int i : new int[] {MIN, -1, 35, 36, 40, 41, MAX}) {
            Edges.refused(Edges::busy, "met(2, " + i + ", -1)", PLACE, x -> x.met(2, i, -1));
            Edges.refused(Edges::busy, "met(2, " + i + ", 5)", PLACE, x -> x.met(2, i, 5));
        }
        Edges.refused(Edges::busy, "met(0, 0, -1) of 5 items", PLACE, x -> x.met(0, 0, -1));
        Edges.due("the last 6 of 40", Edges.busy().met(2, 34, -1), 1);
        Edges.refused(EdgesOfAgreementTest::withZeros, "30 lines, item 11 of 40", PLACE, x -> x.met(0, 11, -1));
        Edges.refused(EdgesOfAgreementTest::withZeros, "30 lines, item 1 of 30", PLACE, x -> x.met(1, 1, -1));
        Edges.refused(EdgesOfAgreementTest::withZeros, "30 lines, 29 items", PLACE, x -> x.met(2, 0, -1));
        Edges.due("30 lines, item 10 of 40", withZeros().met(0, 10, -1), 1);
        Edges.due("30 lines, 30 items", withZeros().met(1, 0, -1), 1);
        Edges.sentence(17, "without LINES no ITEM is taken");
        Edges.Scene lineless = () -> Edges.items(new TiedViews(2), 0, 0, 5);
        Edges.due("at the beginning", lineless.make().met(0, 0, -1), 1);
        Edges.due("at the end", lineless.make().met(0, 1, -1), 1);
        Edges.refused(lineless, "beyond the end", PLACE, x -> x.met(0, 2, -1));
        Edges.refused(lineless, "below", PLACE, x -> x.met(0, -1, -1));
        Edges.refused(lineless, "no line 0", BAD, x -> x.met(0, 0, 0));
        Edges.refused(lineless, "below -1", BAD, x -> x.met(0, 0, -2));
    }

    private static void metItems() {
        Edges.sentence(17, "then BAD: an ITEM is no rest");
        for (int p : Edges.PRIMES) {
            Edges.Scene scene = () -> Edges.items(Edges.told(p, PAIR, "tie 0 1 2 by 1,0 and 0,1;"), 0, 2, p, p - 1, 0, p, -1, 0, -1);
            Edges.due("the last rest of " + p, scene.make().met(0, 1, -1), 1);
            Edges.refused(scene, "the first is " + p, BAD, x -> x.met(0, 0, -1));
            Edges.refused(scene, "the last is " + p, BAD, x -> x.met(0, 2, 0));
            Edges.refused(scene, "the first is -1", BAD, x -> x.met(0, 4, 1));
            Edges.refused(scene, "the last is -1", BAD, x -> x.met(0, 5, -1));
            Edges.sentence(17, "PLACE goes ahead of an ITEM that is no rest, by " + p);
            Edges.refused(scene, "beyond the end", PLACE, x -> x.met(0, 6, -1));
        }
    }

    private static void metAnswers() {
        Edges.sentence(17, "MET (k = -1: 1, 0)");
        Edges.Scene twice = () -> Edges.items(Edges.told(5, PAIR, "tie 0 1 1 by 2 and 1;tie 0 1 1 by 4 and 2;"), 0, 2, 1, 2, 1, 3);
        Edges.due("asks that can be met", twice.make().met(0, 0, -1), 1);
        Edges.due("asks that cannot", twice.make().met(0, 1, -1), 0);
        Edges.sentence(17, "NONE: it is MET");
        Edges.due("line 0", twice.make().met(0, 0, 0), NONE);
        Edges.due("line 1", twice.make().met(0, 0, 1), NONE);
        Edges.sentence(17, "PROOF at LINE k");
        // LINE 0 is multiplied by 3, to be 1 at COLUMN 0, and taken off LINE 1 4 times: less 12 is 3 by rests of 5.
        Edges.due("line 0", twice.make().met(0, 2, 0), 3);
        Edges.due("line 1", twice.make().met(0, 2, 1), 1);
        Edges.sentence(17, "the line of the least number that wants another number than 0");
        TiedViews x = withZeros();
        x.set(0, 29, 6);
        Edges.due("line 29 alone", x.met(0, 0, 29), 1);
        Edges.due("not line 28", x.met(0, 0, 28), 0);
        x.set(0, 0, 1);
        Edges.due("line 0 is not met", x.met(0, 0, -1), 0);
        Edges.due("line 0 and 29", x.met(0, 0, 0), 1);
        Edges.due("not line 29", x.met(0, 0, 29), 0);
        x.set(0, 0, 0);
        x.set(0, 29, 0);
        Edges.due("no line", x.met(0, 0, 29), NONE);
        Edges.sentence(17, "all that is answered is asked on LINES, not on READINGS");
        x = Edges.items(unfit(), 0, 2, 4);
        Edges.due("met, though readings do not fit", x.met(0, 0, -1), 1);
        Edges.sentence(17, "an ask changes nothing but status(), which is 0 then");
        x = Edges.busy();
        x.drop(7);
        Edges.due("met", x.met(2, 0, -1), 1);
        Edges.due("status behind 1", x.status(), 0);
        x.drop(7);
        Edges.due("none", x.met(2, 0, 0), NONE);
        Edges.due("status behind NONE", x.status(), 0);
        x = twice.make();
        x.drop(7);
        Edges.due("not met", x.met(0, 1, -1), 0);
        Edges.due("status behind 0", x.status(), 0);
        Edges.same("asks", () -> {
            TiedViews y = Edges.busy();
            y.met(2, 0, -1);
            y.met(2, 0, 3);
            return y;
        }, Edges::busy);
    }

    private static void leaders() {
        Edges.sentence(17, "of lines that are no LEADERS yet the one of the least number that is not 0 there");
        // COLUMN 0: LINE 1 leads, as LINE 0 is 0 there; COLUMN 1: LINE 0 leads; LINE 2 is made 0 of both.
        Edges.Scene scene = () -> Edges.items(Edges.told(5, PAIR, "tie 0 1 3 by 0,1,1 and 4,0,4;"), 0, 2, 0, 0, 2);
        int[] dues = {4, 4, 1};
        for (int k = 0; k < 3; k++) {
            Edges.due("proof at line " + k, scene.make().met(0, 0, k), dues[k]);
        }
        Edges.sentence(17, "taken off all other lines, as often as they are there");
        scene = () -> Edges.items(Edges.told(7, PAIR, "tie 0 1 3 by 3,5,6 and 0,0,0;"), 0, 2, 0, 1, 1);
        // LINE 0 is multiplied by 5 and taken off LINE 1 5 times: less 25 is 3 by rests of 7.
        int[] often = {3, 1, 0};
        for (int k = 0; k < 3; k++) {
            Edges.due("proof at line " + k, scene.make().met(0, 0, k), often[k]);
        }
    }

    // ---- promise 18: cost

    private static void costs() {
        Edges.sentence(18, "BAD: no TIE");
        for (int t : new int[] {MIN, -1, 3, 4, 10, MAX}) {
            Edges.refused(Edges::busy, "cost(" + t + ")", BAD, x -> x.cost(t));
        }
        Edges.refused(Edges::full, "cost(10) of 10", BAD, x -> x.cost(10));
        Edges.refused(() -> new TiedViews(2), "cost(0) of none", BAD, x -> x.cost(0));
        Edges.sentence(18, "COST of a TIE, from the first to the last");
        int[] dues = {2, 1, 3};
        for (int t = 0; t < 3; t++) {
            int tie = t;
            Edges.asks(Edges::busy, "cost(" + t + ")", dues[t], x -> x.cost(tie));
        }
        Edges.asks(EdgesOfAgreementTest::pinned30, "cost of a tie told twice", 0, x -> x.cost(0));
        Edges.asks(EdgesOfAgreementTest::pinned30, "cost of the last", 0, x -> x.cost(9));
        Edges.asks(EdgesOfAgreementTest::pinned30, "cost of one told once", 3, x -> x.cost(7));
        Edges.asks(EdgesOfAgreementTest::noughts30, "cost of noughts", 0, x -> x.cost(9));
        Edges.asks(EdgesOfAgreementTest::unfit, "cost where readings do not fit", 1, x -> x.cost(0));
        Edges.sentence(18, "it is asked between FILLS, and changes none");
        TiedViews y = Edges.busy();
        for (int t = 0; t < 3; t++) {
            int before = y.fill(4) * 10 + y.fill(-1);
            y.cost(t);
            Edges.due("fill behind cost(" + t + ")", y.fill(4) * 10 + y.fill(-1), before);
            Edges.due("fixed behind cost(" + t + ")", y.fixed(4), 5);
        }
        Edges.sentence(18, "the only TIE");
        TiedViews x = Edges.told(2, PAIR, "tie 0 1 2 by 1,1 and 1,0;");
        Edges.due("cost(0)", x.cost(0), 2);
        Edges.due("cost(1)", x.cost(1), BAD);
    }

    public static void main(String[] args) {
        allNumbers();
        allExtremes();
        basisNumbers();
        basisRows();
        readingNumbers();
        readingPlaces();
        readingItems();
        readingAgain();
        unreads();
        fillNumbers();
        fillRows();
        fixedNumbers();
        fixedColumns();
        fewestOfNone();
        fewestOf24();
        fewestOfAll();
        fewestOfSeveral();
        metNumbers();
        metPlaces();
        metItems();
        metAnswers();
        leaders();
        costs();
        Edges.end("edges of agreement");
    }
}
