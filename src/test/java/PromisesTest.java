import java.nio.charset.StandardCharsets;

/** For each promise: ordinary inputs, the edges that the document names, and wrong inputs. */
public final class PromisesTest {
    private static final int NONE = TiedViews.NONE, BAD = TiedViews.BAD, FULL = TiedViews.FULL;
    private static final int NULL = -1000011, PLACE = -1000012, KIND = -1000013, SIZE = -1000014, STORE = -1000015;
    private static final int MIN = Integer.MIN_VALUE, MAX = Integer.MAX_VALUE;

    private static int wrong = 0;
    private static int checks = 0;
    private static int promise = 0;

    private static void due(String what, long got, long want) {
        checks++;
        if (got != want) {
            wrong++;
            System.out.println("promise " + promise + ": " + what + " answered " + got + ", due is " + want);
        }
    }

    private static void feed(TiedViews x, String text) {
        byte[] bytes = text.getBytes(StandardCharsets.ISO_8859_1);
        for (int i = 0; i < bytes.length; i += 8) {
            int n = Math.min(8, bytes.length - i);
            long w = 0;
            for (int k = 0; k < n; k++) {
                w = w << 8 | bytes[i + k] & 255;
            }
            x.feed(w, n);
        }
    }

    private static int read(TiedViews x, String text) {
        feed(x, text);
        return x.read();
    }

    private static TiedViews told(int prime, String text) {
        TiedViews x = new TiedViews(prime);
        int got = read(x, text);
        if (got < 0) {
            due("text '" + text + "'", got, 0);
        }
        return x;
    }

    private static void sheet(TiedViews x, int sheet, int... items) {
        x.sheet(sheet, 2, items.length);
        for (int i = 0; i < items.length; i++) {
            x.set(sheet, i, items[i]);
        }
    }

    private static void reading(TiedViews x, int eye, int... items) {
        sheet(x, 7, items);
        due("reading of eye " + eye, x.reading(eye, 7, 0), 1);
        x.drop(7);
    }

    private static void fault(TiedViews x, String text, int place, int number) {
        int eyes = x.count(1), ties = x.count(2), bars = x.count(3), columns = x.all(1), lines = x.all(2);
        due("read '" + text + "'", read(x, text), -1000100 - place);
        due("fault of '" + text + "'", x.fault(), number);
        due("eyes behind '" + text + "'", x.count(1), eyes);
        due("ties behind '" + text + "'", x.count(2), ties);
        due("bars behind '" + text + "'", x.count(3), bars);
        due("columns behind '" + text + "'", x.all(1), columns);
        due("lines behind '" + text + "'", x.all(2), lines);
        due("tape behind '" + text + "'", x.count(7), 0);
    }

    /** On a new object each time, since none may be used for more than 512 calls. */
    private static void fault(String text, int place, int number) {
        fault(told(3, "eye view 1;eye mod 2;eye choice 2;eye choice 3;"), text, place, number);
    }

    private static final String TRIANGLE = "eye view 1;eye view 1;eye view 1;"
        + "tie 0 1 1 by 1 and 1;tie 1 2 1 by 1 and 1;tie 2 0 1 by 1 and 1;tie 0 2 1 by 0 and 0;";
    private static final String MIXED = "eye view 2;eye mod 2;eye held 1;eye choice 3;"
        + "tie 0 1 2 by 1 0,0 1 and 1 0,0 1;tie 1 2 1 by 1 2 and 3;tie 2 0 1 by 1 and 1 1;";

    private static void newObject() {
        promise = 1;
        int[] primes = {2, 3, 5, 7};
        for (int p : primes) {
            due("prime " + p, new TiedViews(p).count(8), p);
        }
        int[] others = {MIN, -7, -2, -1, 0, 1, 4, 6, 8, 9, 11, MAX};
        for (int p : others) {
            due("prime " + p, new TiedViews(p).count(8), 7);
        }
        TiedViews x = new TiedViews(3);
        for (int i = 0; i < 8; i++) {
            due("count " + i, x.count(i), 0);
            due("drop " + i, x.drop(i), NULL);
        }
        due("status", new TiedViews(2).status(), 0);
    }

    private static void sheets() {
        TiedViews x = new TiedViews(7);
        promise = 2;
        due("sheet of 40", x.sheet(0, 0, 40), 40);
        due("sheet of none", x.sheet(7, 2, 0), 0);
        due("there are 2", x.count(0), 2);
        due("its place", x.set(7, 0, 1), PLACE);
        int[][] bad = {{-1, 0, 1}, {8, 0, 1}, {MIN, 0, 1}, {MAX, 0, 1}, {0, -1, 1}, {0, 3, 1}, {0, 0, 41}, {0, 0, MAX},
            {8, 0, -1}, {0, 3, -1}};
        x.set(0, 3, 9);
        for (int[] b : bad) {
            due("sheet " + b[0] + " " + b[1] + " " + b[2], x.sheet(b[0], b[1], b[2]), BAD);
        }
        due("below none", x.sheet(0, 0, -1), SIZE);
        due("far below none", x.sheet(0, 1, MIN), SIZE);
        due("status", x.status(), 4);
        due("it is as before", x.drop(0), 40);
        due("anew", x.sheet(0, 1, 3), 3);
        due("put", x.set(0, 1, 77), 77);
        due("in its place", x.sheet(0, 1, 2), 2);
        x.sheet(1, 1, 2);
        x.copy(0, 0, 1, 0, 2);
        TiedViews y = told(7, "eye view 2;");
        sheet(y, 0, 5, 5);
        due("again", y.sheet(0, 0, 2), 2);
        y.reading(0, 0, 0);
        due("items are 0 at first", y.fill(1), 0);
        promise = 3;
        x = new TiedViews(7);
        x.sheet(0, 0, 2);
        x.sheet(1, 1, 2);
        x.sheet(2, 2, 2);
        due("byte 127", x.set(0, 1, 127), 127);
        due("byte 128", x.set(0, 1, 128), -128);
        due("byte 511", x.set(0, 1, 511), -1);
        due("byte 256", x.set(0, 1, 256), 0);
        due("short 32768", x.set(1, 0, 32768), -32768);
        due("short 65541", x.set(1, 0, 65541), 5);
        due("int", x.set(2, 0, MIN), MIN);
        due("int", x.set(2, 0, MAX), MAX);
        due("no sheet", x.set(8, 0, 0), BAD);
        due("no sheet", x.set(-1, 0, 0), BAD);
        due("missing", x.set(3, 5, 0), NULL);
        int[] places = {-1, 2, MIN, MAX};
        for (int i : places) {
            due("place " + i, x.set(0, i, 0), PLACE);
        }
        due("status", x.status(), 2);
        due("fine", x.set(0, 0, 0), 0);
        due("status", x.status(), 0);
        copies();
        promise = 5;
        x = new TiedViews(7);
        x.sheet(4, 1, 17);
        due("had 17", x.drop(4), 17);
        due("none there", x.count(0), 0);
        due("missing then", x.drop(4), NULL);
        due("status", x.status(), 1);
        due("no sheet", x.drop(8), BAD);
        due("no sheet", x.drop(-1), BAD);
        due("status stays", x.status(), 1);
        x.sheet(4, 1, 0);
        due("had none", x.drop(4), 0);
        due("status", x.status(), 0);
    }

    private static void copies() {
        promise = 4;
        TiedViews x = told(7, "eye view 3;");
        sheet(x, 0, 1, 2, 3, 4, 5);
        due("onto itself, on", x.copy(0, 0, 0, 1, 4), 4);
        x.reading(0, 0, 0);
        due("as they were ahead", x.fill(0) * 100 + x.fill(1) * 10 + x.fill(2), 112);
        x.reading(0, 0, 2);
        due("as they were ahead", x.fill(0) * 100 + x.fill(1) * 10 + x.fill(2), 234);
        due("onto itself, back", x.copy(0, 1, 0, 0, 4), 4);
        x.reading(0, 0, 2);
        due("as they were ahead", x.fill(0) * 100 + x.fill(1) * 10 + x.fill(2), 344);
        x.sheet(1, 2, 3);
        due("to another", x.copy(0, 1, 1, 0, 3), 3);
        x.reading(0, 1, 0);
        due("the other", x.fill(0) * 100 + x.fill(1) * 10 + x.fill(2), 234);
        due("none at the ends", x.copy(0, 5, 1, 3, 0), 0);
        due("status", x.status(), 0);
        int[][] places = {{-1, 0, 1}, {0, -1, 1}, {0, 0, -1}, {6, 0, 0}, {0, 4, 0}, {0, 0, 4}, {3, 0, 3}, {0, 1, 3},
            {MAX, 0, MAX}, {0, MAX, 1}, {1, 1, MAX}, {MIN, 0, 0}, {0, 0, MIN}};
        for (int[] p : places) {
            due("copy " + p[0] + " " + p[1] + " " + p[2], x.copy(0, p[0], 1, p[1], p[2]), PLACE);
        }
        x.reading(0, 1, 0);
        due("unchanged", x.fill(0) * 100 + x.fill(1) * 10 + x.fill(2), 234);
        x.sheet(2, 1, 3);
        due("two lanes", x.copy(0, 0, 2, 0, 1), STORE);
        due("two lanes before a place", x.copy(0, -1, 2, 0, 99), STORE);
        due("two lanes, none", x.copy(0, 0, 2, 0, 0), STORE);
        due("status", x.status(), 5);
        due("missing a", x.copy(3, 0, 2, 0, 1), NULL);
        due("missing b", x.copy(2, -1, 3, 0, 1), NULL);
        due("no sheet a", x.copy(8, 0, 3, 0, 1), BAD);
        due("no sheet b", x.copy(3, 0, -1, 0, 1), BAD);
        due("status", x.status(), 1);
    }

    private static void texts() {
        promise = 6;
        TiedViews x = new TiedViews(5);
        int[] bad = {0, -1, 9, MIN, MAX};
        for (int n : bad) {
            due("feed " + n, x.feed(32, n), BAD);
        }
        due("the lowest bytes, the highest first", x.feed(0x7777657965207669L, 6), 6);
        due("behind", x.feed(0x6577203120203bL, 7), 13);
        due("that is an eye", x.read(), 1);
        for (int i = 1; i <= 62; i++) {
            due("feed", x.feed(0x2020202020202020L, 8), 8 * i);
        }
        due("5 more than 496", x.feed(0x2020202020L, 5), FULL);
        due("none came", x.count(7), 496);
        due("4 more", x.feed(0x20202020L, 4), 500);
        due("one more", x.feed(32, 1), FULL);
        due("BAD before FULL", x.feed(32, 0), BAD);
        due("500 gaps", x.read(), 1);
        due("empty", x.count(7), 0);
        promise = 7;
        x = new TiedViews(3);
        due("nothing", x.read(), 0);
        due("gaps", read(x, " \n \n"), 0);
        due("without gaps", read(x, "eye view1;eye\nmod 002 ;"), 2);
        due("002", x.eye(1, 1), 2);
        due("behind what there is", read(x, "eye choice 4;tie 1 0 1 by 1 2 and 0;eye choice 1;bar 2 3 3 0;"), 4);
        due("ties", x.count(2), 1);
        due("bars", x.count(3), 1);
        due("a tie of a later text", read(x, "tie 0 1 1 by 1 and 1 1;"), 4);
        due("no fault yet", x.fault(), 0);
        faults();
        room();
        promise = 8;
        x = new TiedViews(2);
        due("none", x.fault(), 0);
        read(x, "eye view 9;");
        due("2", x.fault(), 2);
        read(x, "eye view 1;");
        due("2 still", x.fault(), 2);
        read(x, ",");
        due("1", x.fault(), 1);
        promise = 9;
        x = told(5, MIXED);
        int[][] eyes = {{0, 2, 0, 0, 2, NONE}, {1, 2, 2, 0, 2, NONE}, {2, 1, 4, 0, 2, NONE}, {3, 3, NONE, 0, 0, 7}};
        for (int i = 0; i < 4; i++) {
            for (int what = 0; what < 6; what++) {
                due("eye " + i + " " + what, x.eye(i, what), eyes[i][what]);
            }
            due("eye 6", x.eye(i, 6), BAD);
            due("eye -1", x.eye(i, -1), BAD);
        }
        reading(x, 1, 3, 3);
        due("has a reading", x.eye(1, 3), 1);
        x.choose(3, 5);
        due("set", x.eye(3, 5), 5);
        due("no eye", x.eye(4, 0), BAD);
        due("no eye", x.eye(-1, 0), BAD);
    }

    private static void faults() {
        fault("eye", 3, 1);
        fault("eye  \n ", 7, 1);
        fault("eye view", 8, 1);
        fault("eye view 1", 10, 1);
        fault(" eyes view 1;", 1, 1);
        fault("Eye view 1;", 0, 1);
        fault("eye views 1;", 4, 1);
        fault("eye view ;", 9, 1);
        fault("eye view one;", 9, 1);
        fault("eye view 0;", 9, 2);
        fault("eye view 4;", 9, 2);
        fault("eye held 999;", 9, 2);
        fault("eye held 0001;", 9, 1);
        fault("eye choice 0;", 11, 2);
        fault("eye choice 5;", 11, 2);
        fault("eye view 1a;", 10, 1);
        fault("eye view 1,", 10, 1);
        fault("eye view 1;;", 11, 1);
        fault("eye view 1;7", 11, 1);
        fault("eye view 1;eye mod 1;!", 21, 1);
        fault("eye view 1;\t", 11, 1);
        fault("eye view 1;" + (char) 233, 11, 1);
        fault("eye view 1;" + (char) 0, 11, 1);
        fault("tie 4 0 1 by 1 and 1;", 4, 2);
        fault("tie 2 0 1 by 1 and 1;", 4, 2);
        fault("tie 0 3 1 by 1 and 1;", 6, 2);
        fault("tie 0 0 1 by 1 and 1;", 6, 2);
        fault("tie 0 9 1 by 1 and 1;", 6, 2);
        fault("tie , 1 1 by 1 and 1;", 4, 1);
        fault("tie 0 1 0 by 1 and 1 1;", 8, 2);
        fault("tie 0 1 4 by 1 and 1 1;", 8, 2);
        fault("tie 0 1 1 and 1 by 1 1;", 10, 1);
        fault("tie 0 1 1 by 3 and 1 1;", 13, 2);
        fault("tie 0 1 1 by 1 1 and 1 1;", 15, 1);
        fault("tie 0 1 2 by 1 1 and 1 1;", 15, 1);
        fault("tie 0 1 1 by 1,1 and 1 1;", 14, 1);
        fault("tie 0 1 1 by 1 and 1;", 20, 1);
        fault("tie 0 1 1 by 1 and 1 1 1;", 23, 1);
        fault("tie 0 1 2 by 1,2 and 1 1,1 3;", 27, 2);
        fault("tie 0 1 2 by 1,2 and 1 1,1 2,", 28, 1);
        fault("tie 4 0 1 by 1 and 1;eye view 1;", 4, 2);
        fault("eye view 1;tie 4 0 1 by 1 and 1;tie 5 0 1 by 1 and 1;", 36, 2);
        fault("bar 0 0 2 0;", 4, 2);
        fault("bar 4 0 2 0;", 4, 2);
        fault("bar 2 2 3 0;", 6, 2);
        fault("bar 2 0 2 0;", 8, 2);
        fault("bar 2 0 1 0;", 8, 2);
        fault("bar 2 0 3 3;", 10, 2);
        fault("bar 2 0 3;", 9, 1);
        fault("bar 2 0 3 0", 11, 1);
        fault("bar 2 0 3 0;tie 0 1 1 by 1 and 1 1;bar", 38, 1);
    }

    private static void room() {
        StringBuilder text = new StringBuilder();
        for (int i = 0; i < 8; i++) {
            text.append("eye view 1;");
        }
        TiedViews x = new TiedViews(2);
        fault(x, text + "eye nonsense", 88, 3);
        due("8 eyes", read(x, text.toString()), 8);
        fault(x, " eye", 1, 3);
        fault(x, "eye view 9", 0, 3);
        text.setLength(0);
        for (int i = 0; i < 10; i++) {
            text.append("tie 0 1 1 by 1 and 1;");
        }
        fault(x, text + "tie", 210, 3);
        due("10 ties", read(x, text.toString()), 8);
        due("10 ties", x.count(2), 10);
        fault(x, "tie 0 1 1 by 1 and 1;", 0, 3);
        x = told(2, "eye choice 4;eye choice 4;");
        text.setLength(0);
        for (int i = 0; i < 30; i++) {
            text.append("bar 0 1 1 0;");
        }
        fault(x, text + "bar", 360, 3);
        due("30 bars", read(x, text.toString()), 2);
        due("30 bars", x.count(3), 30);
        fault(x, "eye view 1;bar 0 0 1 1;", 11, 3);
        due("eyes go on", read(x, "eye view 1;"), 3);
    }

    private static void agreement() {
        promise = 10;
        TiedViews x = told(2, TRIANGLE);
        int[] dues = {1, 3, 4, 2, 2, BAD};
        for (int i = 0; i < 6; i++) {
            due("all " + i, x.all(i), dues[i]);
        }
        due("all -1", x.all(-1), BAD);
        due("three free eyes", told(3, "eye view 3;eye held 3;eye choice 4;").all(0), 6);
        promise = 11;
        due("basis", x.basis(0, 0) + x.basis(0, 1) + x.basis(0, 2), 3);
        due("no second", x.basis(1, 0), NONE);
        due("no such", x.basis(MAX, 0), NONE);
        due("k below 0", x.basis(-1, 0), BAD);
        due("no column", x.basis(0, 3), BAD);
        due("no column", x.basis(0, -1), BAD);
        due("BAD before NONE", x.basis(9, 3), BAD);
        x = told(5, "eye view 2;eye view 1;tie 0 1 1 by 1 2 and 3;");
        int[][] rows = {{3, 1, 0}, {3, 0, 1}, {NONE, NONE, NONE}};
        for (int k = 0; k < 3; k++) {
            for (int c = 0; c < 3; c++) {
                due("basis " + k + " " + c, x.basis(k, c), rows[k][c]);
            }
        }
        readings();
        fillsAndFixed();
        promise = 16;
        x = told(3, TRIANGLE);
        due("none to drop", x.fewest(), 0);
        reading(x, 0, 1);
        reading(x, 1, 2);
        due("the least of two", x.fewest(), 1);
        reading(x, 2, 1);
        due("the odd one", x.fewest(), 2);
        reading(x, 2, 0);
        due("two of three", x.fewest(), 3);
        x.unread(1);
        due("one of two", x.fewest(), 1);
        x = told(3, "eye view 1;eye view 1;eye view 1;tie 1 2 1 by 1 and 0;");
        reading(x, 0, 2);
        reading(x, 1, 2);
        reading(x, 2, 2);
        due("the one that is forced", x.fewest(), 2);
        read(x, "tie 0 1 1 by 1 and 0;");
        due("a tie more", x.fewest(), 3);
        x = told(7, "eye view 3;eye mod 3;eye held 3;eye view 3;eye view 3;eye view 3;eye view 3;eye view 3;");
        for (int i = 0; i < 8; i++) {
            reading(x, i, i % 7, 6 - i % 7, 1);
        }
        due("24 free columns", x.fewest(), 0);
        due("fill", x.fill(23), 1);
        asksOnLines();
        promise = 18;
        x = told(5, MIXED);
        due("cost", x.cost(0) * 100 + x.cost(1) * 10 + x.cost(2), 211);
        due("no tie", x.cost(3), BAD);
        due("no tie", x.cost(-1), BAD);
        reading(x, 0, 0, 0);
        due("fits", x.fill(-1), 1);
        due("cost", x.cost(0), 2);
        due("fill behind a cost", x.fill(4), 0);
    }

    private static void readings() {
        promise = 12;
        TiedViews x = told(3, "eye view 2;eye choice 2;eye held 1;");
        sheet(x, 0, 1, 2, 3, -1);
        due("reading", x.reading(0, 0, 0), 1);
        due("count", x.count(4), 1);
        due("no rest", x.reading(0, 0, 1), BAD);
        due("below 0", x.reading(2, 0, 3), BAD);
        due("the reading stays", x.fill(0) * 10 + x.fill(1), 12);
        due("status stays 0", x.status(), 0);
        due("beyond the end", x.reading(0, 0, 3), PLACE);
        due("status", x.status(), 2);
        due("below 0", x.reading(0, 0, -1), PLACE);
        due("far beyond", x.reading(0, 0, MAX), PLACE);
        due("far below", x.reading(0, 0, MIN), PLACE);
        due("no rest: status stays", x.reading(0, 0, 1), BAD);
        due("status", x.status(), 2);
        due("missing", x.reading(0, 1, -1), NULL);
        due("choice", x.reading(1, 0, 0), BAD);
        due("no eye", x.reading(3, 1, 0), BAD);
        due("no eye", x.reading(-1, 0, 0), BAD);
        due("no sheet", x.reading(0, 8, 0), BAD);
        due("the last place", x.reading(2, 0, 1), 1);
        x.set(0, 1, 0);
        due("as it was when read", x.fill(2), 2);
        promise = 13;
        due("had one", x.unread(2), 1);
        due("had none", x.unread(2), 0);
        due("choice", x.unread(1), BAD);
        due("no eye", x.unread(3), BAD);
        due("no eye", x.unread(-1), BAD);
        due("count", x.count(4), 1);
        due("fill", x.fill(2), 0);
    }

    private static void fillsAndFixed() {
        TiedViews x = told(5, "eye view 2;eye view 1;tie 0 1 1 by 1 2 and 3;");
        promise = 14;
        due("no readings fit", x.fill(-1), 1);
        due("fill", x.fill(0) + x.fill(1) + x.fill(2), 0);
        reading(x, 1, 4);
        due("fill", x.fill(0) * 100 + x.fill(1) * 10 + x.fill(2), 204);
        int[] bad = {-2, 3, MIN, MAX};
        for (int c : bad) {
            due("fill " + c, x.fill(c), BAD);
        }
        promise = 15;
        due("free", x.fixed(1), NONE);
        due("bound to a free one", x.fixed(0), NONE);
        due("fixed", x.fixed(2), 4);
        int[] none = {-2, -1, 3, MAX};
        for (int c : none) {
            due("fixed " + c, x.fixed(c), BAD);
        }
        reading(x, 0, 1, 1);
        promise = 14;
        due("do not fit", x.fill(-1), 0);
        due("none", x.fill(0), NONE);
        promise = 15;
        due("none", x.fixed(2), NONE);
        due("BAD", x.fixed(3), BAD);
        x.unread(1);
        due("all fixed", x.fixed(2), 1);
        due("no columns", told(2, "eye choice 1;").fill(0), BAD);
    }

    private static void asksOnLines() {
        promise = 17;
        TiedViews x = told(2, TRIANGLE);
        sheet(x, 0, 9, 1, 1, 1, 0);
        due("not met", x.met(0, 1, -1), 0);
        due("proof", x.met(0, 1, 0) * 1000 + x.met(0, 1, 1) * 100 + x.met(0, 1, 2) * 10 + x.met(0, 1, 3), 1110);
        x.set(0, 1, 0);
        due("met", x.met(0, 1, -1), 1);
        due("no proof", x.met(0, 1, 3), NONE);
        due("no rest", x.met(0, 0, -1), BAD);
        due("beyond", x.met(0, 2, -1), PLACE);
        due("below", x.met(0, -1, 0), PLACE);
        due("far", x.met(0, MAX, 0), PLACE);
        due("status", x.status(), 2);
        due("missing", x.met(1, 0, -1), NULL);
        due("no line", x.met(0, 1, 4), BAD);
        due("no line", x.met(1, 1, -2), BAD);
        due("no sheet", x.met(8, 1, 0), BAD);
        due("status", x.status(), 1);
        due("met", x.met(0, 1, -1), 1);
        due("status", x.status(), 0);
        // Line 2 is the first that is made 0: of itself, less line 0 twice over, by rests of 5.
        x = told(5, "eye view 1;eye view 1;tie 0 1 1 by 2 and 2;tie 0 1 1 by 0 and 0;tie 0 1 1 by 4 and 4;");
        sheet(x, 0, 1, 0, 3);
        due("not met", x.met(0, 0, -1), 0);
        due("proof", x.met(0, 0, 0) * 100 + x.met(0, 0, 1) * 10 + x.met(0, 0, 2), 301);
        x.set(0, 1, 2);
        due("the line of the least number", x.met(0, 0, 0) * 100 + x.met(0, 0, 1) * 10 + x.met(0, 0, 2), 10);
        x.set(0, 1, 0);
        x.set(0, 2, 2);
        due("met", x.met(0, 0, -1), 1);
        x = new TiedViews(2);
        x.sheet(0, 0, 2);
        due("no lines", x.met(0, 2, -1), 1);
        due("no lines, beyond", x.met(0, 3, -1), PLACE);
    }

    private static void hearsay() {
        promise = 19;
        TiedViews x = told(5, MIXED);
        due("rule", x.hear(1, 0, 0), 1);
        due("of itself", x.hear(0, 0, 0), 2);
        due("by a tie of the other only", x.hear(0, 1, 0), 3);
        due("a tie of which from is none", x.hear(2, 0, 1), BAD);
        due("not as many numbers", x.hear(0, 0, 2), BAD);
        due("choice", x.hear(3, 0, 0), BAD);
        due("choice", x.hear(0, 3, 0), BAD);
        due("no eye", x.hear(4, 0, 0), BAD);
        due("no eye", x.hear(0, -1, 0), BAD);
        due("no tie", x.hear(0, 0, 3), BAD);
        due("no tie", x.hear(0, 0, -1), BAD);
        due("held takes nothing, but it is told", x.hear(2, 1, 1), 4);
        for (int i = 5; i <= 16; i++) {
            due("rule", x.hear(1, 0, 0), i);
        }
        due("full", x.hear(1, 0, 0), FULL);
        due("BAD before FULL", x.hear(1, 0, 3), BAD);
        due("16", x.count(5), 16);
        promise = 20;
        due("was 0", x.now(0, 1, 4), 0);
        due("was 4", x.now(0, 1, 3), 4);
        int[][] bad = {{0, 2, 1}, {0, -1, 1}, {0, 0, 5}, {0, 0, -1}, {3, 0, 0}, {4, 0, 0}, {-1, 0, 0}, {2, 1, 0}};
        for (int[] b : bad) {
            due("now " + b[0] + " " + b[1] + " " + b[2], x.now(b[0], b[1], b[2]), BAD);
        }
        promise = 22;
        due("says", x.says(0, 1), 3);
        due("says", x.says(0, 0), 0);
        for (int[] b : new int[][] {{0, 2}, {0, -1}, {3, 0}, {4, 0}, {-1, 0}}) {
            due("says " + b[0] + " " + b[1], x.says(b[0], b[1]), BAD);
        }
        ticks();
    }

    private static void ticks() {
        promise = 21;
        TiedViews x = told(2, TRIANGLE);
        x.hear(1, 0, 0);
        x.hear(2, 1, 1);
        x.hear(0, 2, 2);
        x.now(0, 0, 1);
        x.now(1, 0, 1);
        due("all at once", x.tick(1), 2);
        due("round", x.says(0, 0) * 100 + x.says(1, 0) * 10 + x.says(2, 0), 11);
        due("100", x.tick(100), 2);
        due("round", x.says(0, 0) * 100 + x.says(1, 0) * 10 + x.says(2, 0), 101);
        int[] bad = {0, 101, -1, MIN, MAX};
        for (int n : bad) {
            due("tick " + n, x.tick(n), BAD);
        }
        x.hear(0, 2, 3);
        due("the one told last", x.tick(1), 1);
        TiedViews y = told(3, "eye held 1;eye view 1;tie 0 1 1 by 2 and 1;");
        y.hear(0, 1, 0);
        y.hear(1, 0, 0);
        y.now(0, 0, 2);
        due("held", y.tick(5), 2);
        due("held", y.says(0, 0) * 10 + y.says(1, 0), 21);
        promise = 23;
        due("behind", y.settles(0), 0);
        due("later", y.settles(1), 1);
        y.now(1, 0, 0);
        due("behind", y.settles(0), 1);
        due("later", y.settles(1), 1);
        due("now stays", y.says(1, 0), 0);
        due("BAD", y.settles(2), BAD);
        due("BAD", y.settles(-1), BAD);
        x = told(2, TRIANGLE);
        x.hear(1, 0, 0);
        x.hear(2, 1, 1);
        x.hear(0, 2, 2);
        due("all 0", x.settles(1), 1);
        x.now(2, 0, 1);
        due("round", x.settles(1), 3);
        due("from now on", x.settles(0), 0);
        longWalks();
        edgeOf300();
    }

    /** A ring of five eyes comes again behind 5 times 20 ticks, eye 5 behind 3, so all behind 300. */
    private static void edgeOf300() {
        String id = "1 0,0 1";
        TiedViews x = told(5, "eye view 2;eye view 2;eye view 2;eye view 2;eye view 2;eye view 2;eye view 2;"
            + "tie 0 1 2 by " + id + " and " + id + ";tie 1 2 2 by " + id + " and " + id + ";tie 2 3 2 by " + id + " and "
            + id + ";tie 3 4 2 by " + id + " and " + id + ";tie 4 0 2 by 2 1,0 2 and " + id + ";tie 5 6 2 by 0 1,4 4 and "
            + id + ";");
        for (int i = 0; i < 5; i++) {
            x.hear((i + 1) % 5, i, i);
        }
        x.hear(5, 5, 5);
        x.now(0, 1, 1);
        due("the ring", x.settles(1), 100);
        x.now(5, 0, 1);
        due("within 300", x.settles(0), 0);
        due("300 later", x.settles(1), 300);
        x.hear(6, 5, 5);
        due("not within 300", x.settles(0), NONE);
        due("not within 300", x.settles(1), NONE);
        x.tick(1);
        due("within 300", x.settles(0), 0);
        due("300 later", x.settles(1), 300);
        read(x, "eye view 1;");
        due("an eye more", x.settles(1), 300);
    }

    /** The companion table of x^3 - 6x^2 - 6x - 4 (or a like one) by rests of 7 may go 342 ticks, of 5 124. */
    private static void longWalks() {
        boolean spent = false;
        boolean longest = false;
        for (int c = 0; c < 343; c++) {
            TiedViews x = told(7, "eye view 3;eye view 3;tie 0 1 3 by 0 1 0,0 0 1," + c / 49 + " " + c / 7 % 7 + " "
                + c % 7 + " and 0 0 0,0 0 0,0 0 0;");
            x.hear(0, 0, 0);
            x.now(0, 0, 1);
            int mu = x.settles(0);
            int lambda = x.settles(1);
            int[] walk = walk(c / 49, c / 7 % 7, c % 7);
            due("behind, table " + c, mu, walk[0]);
            due("later, table " + c, lambda, walk[1]);
            spent |= walk[0] == NONE;
            longest |= walk[1] > 100;
        }
        due("some are spent", spent ? 1 : 0, 1);
        due("some are long", longest ? 1 : 0, 1);
    }

    private static int[] walk(int a, int b, int c) {
        int[] seen = new int[343];
        java.util.Arrays.fill(seen, -1);
        int u = 1, v = 0, w = 0;
        for (int t = 0; t <= 300; t++) {
            int code = u * 49 + v * 7 + w;
            if (seen[code] >= 0) {
                return new int[] {seen[code], t - seen[code]};
            }
            seen[code] = t;
            int next = (a * u + b * v + c * w) % 7;
            u = v;
            v = w;
            w = next;
        }
        return new int[] {NONE, NONE};
    }

    private static void choices() {
        promise = 24;
        TiedViews x = told(2, "eye choice 3;eye view 1;eye choice 2;eye choice 4;bar 0 0 2 0;bar 2 1 0 0;bar 3 2 2 1;");
        due("was all", x.choose(0, 5), 7);
        due("was 5", x.choose(0, 7), 5);
        int[][] bad = {{0, 0}, {0, 8}, {0, -1}, {2, 4}, {1, 1}, {4, 1}, {-1, 1}, {0, MIN}, {0, MAX}};
        for (int[] b : bad) {
            due("choose " + b[0] + " " + b[1], x.choose(b[0], b[1]), BAD);
        }
        promise = 26;
        due("ways", x.fills(-1), 2 * (4 + 3));
        due("first", x.fills(0) * 100 + x.fills(2) * 10 + x.fills(3), 100);
        due("no choice", x.fills(1), BAD);
        due("no eye", x.fills(4), BAD);
        due("no eye", x.fills(-2), BAD);
        promise = 25;
        due("value 0 of choice 0 goes", x.narrow(), 1);
        due("set", x.eye(0, 5), 6);
        due("no more", x.narrow(), 0);
        x.choose(3, 4);
        due("value 1 of choice 2 goes", x.narrow(), 1);
        due("set", x.eye(2, 5), 1);
        x.choose(0, 1);
        due("all go", x.narrow(), 3);
        due("empty", x.eye(0, 5) + x.eye(2, 5) + x.eye(3, 5), 0);
        promise = 26;
        due("no ways", x.fills(-1), 0);
        due("none", x.fills(0), NONE);
        due("BAD", x.fills(1), BAD);
        promise = 24;
        due("empty before", x.choose(0, 2), 0);
        promise = 26;
        TiedViews z = told(2, "eye choice 2;eye choice 3;eye choice 3;bar 0 0 1 2;bar 0 0 2 2;bar 1 0 2 0;bar 1 0 2 1;"
            + "bar 1 1 2 0;bar 1 1 2 1;");
        due("ways", z.fills(-1), 5);
        due("the least value leads nowhere", z.fills(0) * 100 + z.fills(1) * 10 + z.fills(2), 102);
        due("without choices", told(2, "eye view 1;").fills(-1), 1);
        due("65536", told(2, "eye choice 4;eye choice 4;eye choice 4;eye choice 4;eye choice 4;eye choice 4;"
            + "eye choice 4;eye choice 4;").fills(-1), 65536);
        promise = 25;
        TiedViews y = told(2, "eye choice 1;eye choice 2;eye choice 2;bar 0 0 1 0;bar 1 1 2 0;");
        due("over and over", y.narrow(), 2);
        due("left", y.eye(1, 5) * 10 + y.eye(2, 5), 22);
        y = told(2, "eye choice 2;eye choice 2;eye choice 2;bar 0 0 1 0;bar 0 1 1 1;bar 1 0 2 0;bar 1 1 2 1;"
            + "bar 0 0 2 0;bar 0 1 2 1;");
        due("each has one with each", y.narrow(), 0);
        due("but there is no way", y.fills(-1), 0);
        due("status", y.status(), 0);
    }

    private static void asked() {
        TiedViews x = told(5, MIXED);
        promise = 27;
        int[] kinds = {1, 2, 3, 4};
        for (int i = 0; i < 4; i++) {
            due("kind " + i, x.kind(i), kinds[i]);
        }
        due("no eye", x.kind(4), BAD);
        due("no eye", x.kind(-1), BAD);
        promise = 28;
        int[][] as = {{2, 2, KIND, KIND, KIND}, {2, 2, 2, KIND, KIND}, {1, 1, KIND, 1, KIND}, {3, KIND, KIND, KIND, 3}};
        for (int i = 0; i < 4; i++) {
            for (int k = 0; k < 5; k++) {
                due("as " + i + " " + k, x.as(i, k), as[i][k]);
                due("status", x.status(), as[i][k] == KIND ? 3 : 0);
            }
        }
        x.as(0, 4);
        due("BAD", x.as(0, 5), BAD);
        due("BAD", x.as(0, -1), BAD);
        due("BAD", x.as(4, 0), BAD);
        due("status stays", x.status(), 3);
        asks(x);
        promise = 31;
        due("prime", x.count(8), 5);
        int[] counts = {0, 4, 3, 0, 2, 0, 1, 0, 5, BAD};
        for (int i = 0; i < counts.length; i++) {
            due("count " + i, x.count(i), counts[i]);
        }
        due("count -1", x.count(-1), BAD);
        x.feed(32, 3);
        due("bytes", x.count(7), 3);
        promise = 32;
        x = told(5, MIXED);
        due("none yet", x.status(), 0);
        x.drop(0);
        due("NULL", x.status(), 1);
        x.feed(0, 0);
        x.narrow();
        x.unread(0);
        x.kind(9);
        due("NULL still", x.status(), 1);
        x.as(0, 1);
        due("none", x.status(), 0);
    }

    private static void asks(TiedViews x) {
        reading(x, 1, 0, 0);
        reading(x, 2, 0);
        x.choose(3, 6);
        int[][] sizes = {{4, 11, 10}, {20, 12, 11, 10}, {3 - 102, 13, 11, 10, 21, 20}, {5, 14, 10}};
        int[][] marks = {{0, 21, 20}, {121, 22, 21, 20, 12, 11, 10}, {102, 21, 20}, {1003, 23, 20}};
        for (int i = 0; i < 4; i++) {
            traced(x, i, 0, sizes[i]);
            traced(x, i, 1, marks[i]);
        }
        promise = 29;
        int[][] bad = {{0, 2}, {0, -1}, {4, 0}, {-1, 1}};
        for (int[] b : bad) {
            due("ask " + b[0] + " " + b[1], x.ask(b[0], b[1]), BAD);
        }
        promise = 30;
        due("a refused ask leaves the trace", x.trace(0), 23);
        due("none", x.trace(MAX), NONE);
        due("none", x.trace(MIN), NONE);
        due("nothing asked", new TiedViews(2).trace(0), NONE);
    }

    private static void traced(TiedViews x, int eye, int what, int[] dues) {
        promise = 29;
        due("ask " + eye + " " + what, x.ask(eye, what), dues[0]);
        promise = 30;
        for (int i = 1; i < dues.length; i++) {
            due("trace " + (i - 1) + " of ask " + eye + " " + what, x.trace(i - 1), dues[i]);
        }
        due("behind the trace", x.trace(dues.length - 1), NONE);
        due("ahead of the trace", x.trace(-1), NONE);
    }

    public static void main(String[] args) {
        newObject();
        sheets();
        texts();
        agreement();
        hearsay();
        choices();
        asked();
        System.out.println("promises: " + checks + " checks, " + wrong + " wrong");
        if (wrong != 0) {
            System.exit(1);
        }
    }
}
