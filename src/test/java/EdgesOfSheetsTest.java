/** The edges of promises 1 (a new object) to 5 (drop), and of the terms that they use. */
public final class EdgesOfSheetsTest {
    private static final int BAD = Edges.BAD, NONE = Edges.NONE, NULL = Edges.NULL, PLACE = Edges.PLACE;
    private static final int SIZE = Edges.SIZE, STORE = Edges.STORE, MIN = Edges.MIN, MAX = Edges.MAX;

    private static TiedViews fresh() {
        return new TiedViews(7);
    }

    // ---- promise 1: a new object

    private static void primesThatStay() {
        Edges.sentence(1, "THE PRIME: 2, 3, 5 or 7");
        for (int p : Edges.PRIMES) {
            Edges.due("count(8) of " + p, new TiedViews(p).count(8), p);
        }
    }

    private static void primesThatBecome7() {
        Edges.sentence(1, "what is none of the four becomes 7");
        for (int p : new int[] {MIN, -7, -5, -3, -2, -1, 0, 1, 4, 6, 8, 9, 10, 11, 13, 49, MAX}) {
            Edges.due("count(8) of " + p, new TiedViews(p).count(8), 7);
            TiedViews x = new TiedViews(p);
            Edges.read(x, "eye view 1;");
            Edges.due("now 6 by " + p, x.now(0, 0, 6), 0);
            Edges.due("now 7 by " + p, x.now(0, 0, 7), BAD);
        }
    }

    private static void restsOfEachPrime() {
        Edges.sentence(1, "all numbers are rests: 0 to THE PRIME less 1");
        for (int p : Edges.PRIMES) {
            TiedViews x = Edges.told(p, "eye view 1;eye view 1;");
            Edges.due("now 0 by " + p, x.now(0, 0, 0), 0);
            Edges.due("now the last rest of " + p, x.now(0, 0, p - 1), 0);
            Edges.due("now the first that is none of " + p, x.now(0, 0, p), BAD);
            Edges.due("now -1 by " + p, x.now(0, 0, -1), BAD);
            Edges.due("a table of the last rest", Edges.read(x, "tie 0 1 1 by " + (p - 1) + " and 0;"), 2);
            Edges.due("a table of what is none", Edges.read(x, "tie 0 1 1 by " + p + " and 0;"), -1000113);
            x.hear(1, 0, 0);
            // The last rest times itself is 1 by every prime.
            Edges.due("a tick", x.tick(1), 2);
            Edges.due("what wraps around", x.says(1, 0), 1);
        }
    }

    private static void nothingIsTold() {
        Edges.sentence(1, "nothing is told");
        for (int i = 0; i < 8; i++) {
            Edges.due("count " + i, fresh().count(i), 0);
            Edges.due("drop " + i, fresh().drop(i), NULL);
            Edges.due("kind " + i, fresh().kind(i), BAD);
            Edges.due("trace " + i, fresh().trace(i), NONE);
        }
        for (int what = 0; what < 5; what++) {
            Edges.due("all " + what, fresh().all(what), 0);
        }
        TiedViews x = fresh();
        int[] got = {x.status(), x.fault(), x.read(), x.fewest(), x.narrow(), x.tick(1), x.settles(0), x.cost(0), x.basis(0, 0),
            x.fill(0), x.fixed(0), x.fill(-1), x.fills(-1), x.settles(1)};
        int[] due = {0, 0, 0, 0, 0, 0, 0, BAD, BAD, BAD, BAD, 1, 1, 1};
        for (int i = 0; i < got.length; i++) {
            Edges.due("answer " + i + " of a new object", got[i], due[i]);
        }
    }

    private static void objectsAreApart() {
        Edges.sentence(1, "nothing is told, whatever other objects were told");
        Edges.full();
        Edges.busy();
        Edges.due("sheets", fresh().count(0), 0);
        Edges.due("eyes", fresh().count(1), 0);
        Edges.due("bytes", fresh().count(7), 0);
    }

    private static void lastOf512Calls() {
        Edges.sentence(1, "an object is used for at most 512 calls");
        TiedViews x = fresh();
        int calls = 0;
        for (int i = 0; i < 85; i++) {
            Edges.due("sheet", x.sheet(i % 8, i % 3, 40 - i % 2), 40 - i % 2);
            Edges.due("set", x.set(i % 8, 38, i), i);
            Edges.due("set beyond", x.set(i % 8, 40, i), PLACE);
            Edges.due("status", x.status(), 2);
            Edges.due("feed", x.feed(0x6579652076696577L, 1 + i % 8) > 0 ? 1 : 0, 1);
            Edges.due("read", x.read() < -1000099 ? 1 : 0, 1);
            calls += 6;
        }
        Edges.due("call 511", x.feed(0x657965206d6f64L, 7), 7);
        Edges.due("call 512", x.read(), -1000107);
        Edges.due("calls", calls + 2, 512);
    }

    // ---- promise 2: sheet

    private static void sheetNumbers() {
        Edges.sentence(2, "SHEETS 0 .. 7; BAD: SHEET");
        Edges.due("the first", fresh().sheet(0, 0, 1), 1);
        Edges.due("the last", fresh().sheet(7, 0, 1), 1);
        for (int s : Edges.NO_SHEETS) {
            Edges.refused(Edges::busy, "sheet(" + s + ", 0, 1)", BAD, x -> x.sheet(s, 0, 1));
        }
    }

    private static void sheetLanes() {
        Edges.sentence(2, "a LANE: 0 bytes, 1 shorts, 2 ints; BAD: LANE");
        int[] dues = {0, 0, 65536};
        for (int lane = 0; lane < 3; lane++) {
            TiedViews x = fresh();
            Edges.due("lane " + lane, x.sheet(0, lane, 1), 1);
            Edges.due("65536 in lane " + lane, x.set(0, 0, 65536), dues[lane]);
        }
        for (int lane : new int[] {MIN, -1, 3, MAX}) {
            Edges.refused(Edges::busy, "sheet(0, " + lane + ", 1)", BAD, x -> x.sheet(0, lane, 1));
        }
    }

    private static void sheetSizes() {
        Edges.sentence(2, "0 to 40 ITEMS; BAD: n above 40");
        for (int lane = 0; lane < 3; lane++) {
            Edges.due("40 in lane " + lane, fresh().sheet(0, lane, 40), 40);
            Edges.due("none in lane " + lane, fresh().sheet(0, lane, 0), 0);
        }
        for (int n : new int[] {41, 42, MAX}) {
            Edges.refused(Edges::busy, "sheet(0, 0, " + n + ")", BAD, x -> x.sheet(0, 0, n));
            Edges.refused(Edges::busy, "sheet(5, 0, " + n + ")", BAD, x -> x.sheet(5, 0, n));
        }
    }

    private static void sheetsOfFewerThanNone() {
        Edges.sentence(2, "SIZE (fewer than none)");
        for (int n : new int[] {-1, -2, MIN}) {
            Edges.refused(Edges::busy, "sheet(0, 0, " + n + ")", SIZE, x -> x.sheet(0, 0, n));
            Edges.refused(Edges::busy, "sheet(5, 2, " + n + ")", SIZE, x -> x.sheet(5, 2, n));
        }
        Edges.sentence(2, "BAD ahead of SIZE");
        Edges.refused(Edges::busy, "sheet(8, 0, -1)", BAD, x -> x.sheet(8, 0, -1));
        Edges.refused(Edges::busy, "sheet(-1, 0, -1)", BAD, x -> x.sheet(-1, 0, -1));
        Edges.refused(Edges::busy, "sheet(0, 3, -1)", BAD, x -> x.sheet(0, 3, -1));
        Edges.refused(Edges::busy, "sheet(0, -1, -1)", BAD, x -> x.sheet(0, -1, -1));
    }

    private static void emptySheets() {
        Edges.sentence(2, "a SHEET of 0 ITEMS is there, and not missing");
        TiedViews x = fresh();
        x.sheet(3, 0, 0);
        Edges.due("count", x.count(0), 1);
        Edges.due("its first place", x.set(3, 0, 1), PLACE);
        Edges.due("nothing of it", x.copy(3, 0, 3, 0, 0), 0);
        Edges.due("drop", x.drop(3), 0);
    }

    private static void itemsAre0AtFirst() {
        Edges.sentence(2, "ITEMS, 0 at first");
        TiedViews x = fresh();
        x.sheet(0, 2, 3);
        Edges.dueItems("new", x, 0, 0, 0, 0);
        Edges.sentence(2, "in place of what is there");
        x = Edges.items(fresh(), 0, 2, 1, 2, 3, 4);
        Edges.due("a shorter one", x.sheet(0, 2, 2), 2);
        Edges.due("behind its end", x.set(0, 2, 1), PLACE);
        Edges.due("a longer one", x.sheet(0, 2, 5), 5);
        Edges.dueItems("again", x, 0, 0, 0, 0, 0, 0);
        x = Edges.items(fresh(), 0, 2, 1, 2, 3);
        x.drop(0);
        Edges.due("behind a drop", x.sheet(0, 2, 3), 3);
        Edges.dueItems("behind a drop", x, 0, 0, 0, 0);
        x = Edges.items(fresh(), 0, 2, 1, 2, 3);
        Edges.due("of another lane", x.sheet(0, 0, 3), 3);
        Edges.due("it has that lane", x.set(0, 0, 128), -128);
        Edges.due("there is one still", x.count(0), 1);
        Edges.sentence(2, "one SHEET alone is made anew");
        x = Edges.items(Edges.items(Edges.items(fresh(), 0, 2, 1), 1, 2, 2), 2, 2, 3);
        x.sheet(1, 2, 1);
        Edges.dueItems("the one ahead", x, 0, 1);
        x = Edges.items(Edges.items(Edges.items(fresh(), 0, 2, 1), 1, 2, 2), 2, 2, 3);
        x.sheet(1, 2, 1);
        Edges.dueItems("the one behind", x, 2, 3);
    }

    // ---- promise 3: set

    private static void setNumbers() {
        Edges.sentence(3, "BAD: SHEET");
        for (int s : Edges.NO_SHEETS) {
            Edges.refused(Edges::busy, "set(" + s + ", 0, 1)", BAD, x -> x.set(s, 0, 1));
        }
        Edges.sentence(3, "NULL (a SHEET that is missing)");
        for (int s = 5; s < 8; s++) {
            int sheet = s;
            Edges.refused(Edges::busy, "set(" + s + ", 0, 1)", NULL, x -> x.set(sheet, 0, 1));
            Edges.refused(Edges::busy, "set(" + s + ", -1, 1)", NULL, x -> x.set(sheet, -1, 1));
        }
    }

    private static void setPlaces() {
        Edges.sentence(3, "PLACE (no such place of a SHEET)");
        for (int i : new int[] {MIN, -1, 5, 6, 40, MAX}) {
            Edges.refused(Edges::busy, "set(0, " + i + ", 1)", PLACE, x -> x.set(0, i, 1));
        }
        for (int i : new int[] {-1, 40, 41}) {
            Edges.refused(Edges::busy, "set(2, " + i + ", 1)", PLACE, x -> x.set(2, i, 1));
        }
        for (int i : new int[] {-1, 0, 1}) {
            Edges.refused(Edges::busy, "set(3, " + i + ", 1)", PLACE, x -> x.set(3, i, 1));
        }
        Edges.sentence(3, "the first and the last ITEM can be set");
        Edges.due("first of 5", Edges.busy().set(0, 0, 6), 6);
        Edges.due("last of 5", Edges.busy().set(0, 4, 6), 6);
        Edges.due("first of 40", Edges.busy().set(2, 0, 6), 6);
        Edges.due("last of 40", Edges.busy().set(2, 39, 6), 6);
    }

    private static void setOneItem() {
        Edges.sentence(3, "ITEM i becomes v, the others stay");
        TiedViews x = Edges.items(fresh(), 0, 0, 1, 2, 3, 4, 5);
        Edges.due("the first", x.set(0, 0, 6), 6);
        Edges.due("the middle", x.set(0, 2, 0), 0);
        Edges.due("the last", x.set(0, 4, 6), 6);
        Edges.dueItems("sheet 0", x, 0, 6, 2, 0, 4, 6);
    }

    private static void lowestBits() {
        Edges.sentence(3, "its lowest bits, as many as the LANE has: what it is then");
        int[][] bytes = {{0, 0}, {127, 127}, {128, -128}, {255, -1}, {256, 0}, {257, 1}, {-1, -1}, {-128, -128}, {-129, 127},
            {MIN, 0}, {MAX, -1}, {0x12345678, 0x78}, {0x7fffff80, -128}};
        int[][] shorts = {{0, 0}, {128, 128}, {32767, 32767}, {32768, -32768}, {65535, -1}, {65536, 0}, {65537, 1}, {-1, -1},
            {-32768, -32768}, {-32769, 32767}, {MIN, 0}, {MAX, -1}, {0x12345678, 0x5678}};
        int[][] ints = {{0, 0}, {128, 128}, {32768, 32768}, {65536, 65536}, {-1, -1}, {MIN, MIN}, {MAX, MAX}};
        int[][][] lanes = {bytes, shorts, ints};
        for (int lane = 0; lane < 3; lane++) {
            TiedViews x = fresh();
            x.sheet(0, lane, 1);
            for (int[] pair : lanes[lane]) {
                Edges.due(pair[0] + " in lane " + lane, x.set(0, 0, pair[0]), pair[1]);
            }
        }
        Edges.sentence(3, "what it is then is what is read of it");
        TiedViews x = Edges.items(fresh(), 0, 0, 256 + 5, 128, 255, 7, 6, -256);
        Edges.dueItems("bytes", x, 0, 5, NONE, NONE, NONE, 6, 0);
        x = Edges.items(fresh(), 0, 1, 65536 + 5, 256 + 5, 65535);
        Edges.dueItems("shorts", x, 0, 5, NONE, NONE);
    }

    // ---- promise 4: copy

    private static void copyNumbers() {
        Edges.sentence(4, "BAD: SHEETS");
        for (int s : Edges.NO_SHEETS) {
            Edges.refused(Edges::busy, "copy from " + s, BAD, x -> x.copy(s, 0, 0, 0, 1));
            Edges.refused(Edges::busy, "copy to " + s, BAD, x -> x.copy(0, 0, s, 0, 1));
        }
        Edges.sentence(4, "BAD ahead of NULL and of PLACE");
        Edges.refused(Edges::busy, "copy(5, 0, 8, 0, 1)", BAD, x -> x.copy(5, 0, 8, 0, 1));
        Edges.refused(Edges::busy, "copy(-1, 0, 5, 0, 1)", BAD, x -> x.copy(-1, 0, 5, 0, 1));
        Edges.refused(Edges::busy, "copy(0, -1, 8, 0, 1)", BAD, x -> x.copy(0, -1, 8, 0, 1));
    }

    private static void copyMissing() {
        Edges.sentence(4, "NULL");
        Edges.refused(Edges::busy, "copy from a missing one", NULL, x -> x.copy(5, 0, 0, 0, 1));
        Edges.refused(Edges::busy, "copy to a missing one", NULL, x -> x.copy(0, 0, 5, 0, 1));
        Edges.refused(Edges::busy, "copy of two missing ones", NULL, x -> x.copy(5, 0, 6, 0, 1));
        Edges.refused(Edges::busy, "copy of a missing one onto itself", NULL, x -> x.copy(7, 0, 7, 0, 0));
        Edges.sentence(4, "NULL ahead of PLACE");
        Edges.refused(Edges::busy, "copy(5, -1, 0, 9, 99)", NULL, x -> x.copy(5, -1, 0, 9, 99));
        Edges.refused(Edges::busy, "copy(0, -1, 5, 9, 99)", NULL, x -> x.copy(0, -1, 5, 9, 99));
    }

    private static void copyLanes() {
        Edges.sentence(4, "STORE (SHEETS of two LANES)");
        int[][] unlike = {{0, 1}, {0, 2}, {1, 0}, {1, 2}, {2, 0}, {2, 1}, {3, 1}, {3, 2}, {4, 3}};
        for (int[] pair : unlike) {
            Edges.refused(Edges::busy, "copy of 1 from " + pair[0] + " to " + pair[1], STORE, x -> x.copy(pair[0], 0, pair[1], 0, 1));
            Edges.refused(Edges::busy, "copy of 0 from " + pair[0] + " to " + pair[1], STORE, x -> x.copy(pair[0], 0, pair[1], 0, 0));
        }
        Edges.sentence(4, "STORE ahead of PLACE");
        Edges.refused(Edges::busy, "copy(0, -1, 1, 0, 1)", STORE, x -> x.copy(0, -1, 1, 0, 1));
        Edges.refused(Edges::busy, "copy(0, 0, 1, 9, 1)", STORE, x -> x.copy(0, 0, 1, 9, 1));
        Edges.refused(Edges::busy, "copy(0, 0, 1, 0, -1)", STORE, x -> x.copy(0, 0, 1, 0, -1));
        Edges.sentence(4, "SHEETS of one LANE are copied, whichever it is");
        for (int lane = 0; lane < 3; lane++) {
            TiedViews x = Edges.items(Edges.items(fresh(), 0, lane, 1, 2), 1, lane, 3, 4, 5);
            Edges.due("copy in lane " + lane, x.copy(0, 0, 1, 1, 2), 2);
            Edges.dueItems("lane " + lane, x, 1, 3, 1, 2);
        }
    }

    private static void copyPlaces() {
        Edges.sentence(4, "PLACE (i, j, n below 0)");
        int[][] below = {{-1, 0, 1}, {0, -1, 1}, {0, 0, -1}, {MIN, 0, 1}, {0, MIN, 1}, {0, 0, MIN}, {-1, 0, 0}, {0, -1, 0},
            {5, 5, -1}, {1, 1, -1}, {MIN, MIN, MIN}};
        for (int[] p : below) {
            refusedPlaces(p[0], p[1], p[2]);
        }
        Edges.sentence(4, "PLACE (beyond an end)");
        // SHEET 2 has 40 ITEMS, SHEET 4 has 5.
        int[][] beyond = {{0, 0, 6}, {36, 0, 5}, {0, 1, 5}, {40, 0, 1}, {0, 5, 1}, {41, 0, 0}, {0, 6, 0}, {39, 0, 2}, {0, 4, 2},
            {MAX, 0, 0}, {0, MAX, 0}, {0, 0, MAX}, {1, 0, MAX}, {0, 1, MAX}, {MAX, 0, MAX}, {0, MAX, MAX}, {MAX, MAX, 2}};
        for (int[] p : beyond) {
            refusedPlaces(p[0], p[1], p[2]);
        }
        Edges.refused(Edges::busy, "copy of one to an empty one", PLACE, x -> x.copy(0, 0, 3, 0, 1));
        Edges.refused(Edges::busy, "copy of one of an empty one", PLACE, x -> x.copy(3, 0, 0, 0, 1));
        Edges.refused(Edges::busy, "copy on itself beyond its end", PLACE, x -> x.copy(0, 0, 0, 1, 5));
    }

    private static void refusedPlaces(int i, int j, int n) {
        Edges.refused(Edges::busy, "copy(2, " + i + ", 4, " + j + ", " + n + ")", PLACE, x -> x.copy(2, i, 4, j, n));
    }

    private static void copyUpToTheEnds() {
        Edges.sentence(4, "up to the ends: n");
        Edges.due("none at both ends", Edges.busy().copy(2, 40, 4, 5, 0), 0);
        Edges.due("none at both beginnings", Edges.busy().copy(2, 0, 4, 0, 0), 0);
        Edges.due("none of an empty one", Edges.busy().copy(3, 0, 0, 5, 0), 0);
        Edges.due("none onto an empty one", Edges.busy().copy(0, 5, 3, 0, 0), 0);
        Edges.due("all of 40 on itself", Edges.busy().copy(2, 0, 2, 0, 40), 40);
        Edges.due("the last 5", Edges.busy().copy(2, 35, 4, 0, 5), 5);
        Edges.due("the last one", Edges.busy().copy(2, 39, 4, 4, 1), 1);
        Edges.sentence(4, "none of them changes an ITEM");
        TiedViews x = Edges.items(Edges.items(fresh(), 0, 2, 1, 2), 1, 2, 3, 4);
        x.copy(0, 0, 1, 0, 0);
        x.copy(0, 2, 1, 2, 0);
        Edges.dueItems("behind copies of none", x, 1, 3, 4);
        Edges.sentence(4, "n ITEMS alone, from i on, come to b from j on");
        x = Edges.items(Edges.items(fresh(), 0, 2, 1, 2, 3, 4), 1, 2, 5, 6, 5, 6);
        Edges.due("2 of the middle", x.copy(0, 1, 1, 1, 2), 2);
        Edges.dueItems("b", x, 1, 5, 2, 3, 6);
        x = Edges.items(Edges.items(fresh(), 0, 2, 1, 2, 3, 4), 1, 2, 5, 6, 5, 6);
        Edges.due("the last to the first", x.copy(0, 3, 1, 0, 1), 1);
        Edges.dueItems("b", x, 1, 4, 6, 5, 6);
        x = Edges.items(Edges.items(fresh(), 0, 2, 1, 2, 3, 4), 1, 2, 5, 6, 5, 6);
        Edges.due("the first to the last", x.copy(0, 0, 1, 3, 1), 1);
        Edges.dueItems("b", x, 1, 5, 6, 5, 1);
        x = Edges.items(Edges.items(fresh(), 0, 2, 1, 2, 3, 4), 1, 2, 5, 6, 5, 6);
        x.copy(0, 1, 1, 1, 2);
        Edges.dueItems("a stays", x, 0, 1, 2, 3, 4);
    }

    private static void copyOnItself() {
        Edges.sentence(4, "as they were ahead (a SHEET onto itself)");
        TiedViews x = Edges.items(fresh(), 0, 0, 1, 2, 3, 4, 5);
        Edges.due("one on", x.copy(0, 0, 0, 1, 4), 4);
        Edges.dueItems("one on", x, 0, 1, 1, 2, 3, 4);
        x = Edges.items(fresh(), 0, 1, 1, 2, 3, 4, 5);
        Edges.due("one back", x.copy(0, 1, 0, 0, 4), 4);
        Edges.dueItems("one back", x, 0, 2, 3, 4, 5, 5);
        x = Edges.items(fresh(), 0, 2, 1, 2, 3, 4, 5);
        Edges.due("in place", x.copy(0, 0, 0, 0, 5), 5);
        Edges.dueItems("in place", x, 0, 1, 2, 3, 4, 5);
    }

    // ---- promise 5: drop

    private static void drops() {
        Edges.sentence(5, "BAD");
        for (int s : Edges.NO_SHEETS) {
            Edges.refused(Edges::busy, "drop(" + s + ")", BAD, x -> x.drop(s));
        }
        Edges.sentence(5, "NULL");
        for (int s = 5; s < 8; s++) {
            int sheet = s;
            Edges.refused(Edges::busy, "drop(" + s + ")", NULL, x -> x.drop(sheet));
        }
        Edges.sentence(5, "how many ITEMS it had");
        int[] had = {5, 3, 40, 0, 5};
        for (int s = 0; s < 5; s++) {
            Edges.due("drop(" + s + ")", Edges.busy().drop(s), had[s]);
        }
        Edges.sentence(5, "a SHEET is missing from now on");
        for (int s = 0; s < 8; s++) {
            TiedViews x = Edges.full();
            Edges.due("drop(" + s + ")", x.drop(s), 40);
            Edges.due("status", x.status(), 0);
            Edges.due("the others are there", x.count(0), 7);
            Edges.due("set", x.set(s, 0, 1), NULL);
            Edges.due("copy from it", x.copy(s, 0, (s + 1) % 8, 0, 0), NULL);
            Edges.due("copy to it", x.copy((s + 1) % 8, 0, s, 0, 0), NULL);
            Edges.due("reading", x.reading(0, s, 0), NULL);
            Edges.due("met", x.met(s, 0, -1), NULL);
            Edges.due("drop again", x.drop(s), NULL);
        }
        Edges.sentence(5, "what was read of a SHEET stays when it is dropped");
        TiedViews x = Edges.busy();
        x.drop(0);
        Edges.due("readings", x.count(4), 2);
        Edges.due("fill", x.fill(4), 5);
    }

    public static void main(String[] args) {
        primesThatStay();
        primesThatBecome7();
        restsOfEachPrime();
        nothingIsTold();
        objectsAreApart();
        lastOf512Calls();
        sheetNumbers();
        sheetLanes();
        sheetSizes();
        sheetsOfFewerThanNone();
        emptySheets();
        itemsAre0AtFirst();
        setNumbers();
        setPlaces();
        setOneItem();
        lowestBits();
        copyNumbers();
        copyMissing();
        copyLanes();
        copyPlaces();
        copyUpToTheEnds();
        copyOnItself();
        drops();
        Edges.end("edges of sheets");
    }
}
