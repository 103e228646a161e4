import java.nio.charset.StandardCharsets;
import java.util.Arrays;

/**
 * What the tests of edges share: sentences of the document, each a test of its own; scenes that are
 * built anew for each look; and a look at all that can be seen of an object. No object is used for
 * more than 512 calls, since what later calls answer is free.
 */
final class Edges {
    // Written out, so that a constant of the class that is wrong is seen.
    static final int NONE = -1000000, BAD = -1000001, FULL = -1000003;
    static final int NULL = -1000011, PLACE = -1000012, KIND = -1000013, SIZE = -1000014, STORE = -1000015;
    static final int MIN = Integer.MIN_VALUE, MAX = Integer.MAX_VALUE;
    static final int[] NO_SHEETS = {MIN, -1, 8, MAX};
    static final int[] PRIMES = {2, 3, 5, 7};

    private static int promise = 0;
    private static String words = "";
    private static int sentences = 0;
    private static int checks = 0;
    private static int wrong = 0;

    /** Builds the same object each time. */
    interface Scene {
        TiedViews make();
    }

    interface Call {
        int on(TiedViews x);
    }

    private interface Look {
        void at(TiedViews x, Seen seen);
    }

    /** Answers in the order in which they were given. */
    private static final class Seen {
        int[] answers = new int[64];
        int count = 0;

        void add(int answer) {
            if (count == answers.length) {
                answers = Arrays.copyOf(answers, 2 * count);
            }
            answers[count++] = answer;
        }
    }

    private Edges() {
    }

    /** The checks that follow belong to these words of this promise; 0: words of the terms. */
    static void sentence(int number, String what) {
        promise = number;
        words = what;
        sentences++;
    }

    static void due(String what, long got, long want) {
        checks++;
        if (got != want) {
            wrong++;
            System.out.println("promise " + promise + ", \"" + words + "\": " + what + " answered " + got + ", due is " + want);
        }
    }

    static void end(String name) {
        System.out.println(name + ": " + sentences + " sentences, " + checks + " checks, " + wrong + " wrong");
        if (wrong != 0) {
            System.exit(1);
        }
    }

    // ---- how scenes are built

    static TiedViews feed(TiedViews x, String text) {
        byte[] bytes = text.getBytes(StandardCharsets.ISO_8859_1);
        for (int i = 0; i < bytes.length; i += 8) {
            int n = Math.min(8, bytes.length - i);
            long w = 0;
            for (int k = 0; k < n; k++) {
                w = w << 8 | bytes[i + k] & 255;
            }
            x.feed(w, n);
        }
        return x;
    }

    static int read(TiedViews x, String text) {
        return feed(x, text).read();
    }

    static TiedViews told(int prime, String... texts) {
        TiedViews x = new TiedViews(prime);
        for (String text : texts) {
            int got = read(x, text);
            if (got < 0) {
                due("the text '" + text + "' of a test", got, 0);
            }
        }
        return x;
    }

    static TiedViews items(TiedViews x, int sheet, int lane, int... items) {
        x.sheet(sheet, lane, items.length);
        for (int i = 0; i < items.length; i++) {
            if (items[i] != 0) {
                x.set(sheet, i, items[i]);
            }
        }
        return x;
    }

    /** By way of SHEET 7, which is missing then. */
    static TiedViews reads(TiedViews x, int eye, int... numbers) {
        items(x, 7, 2, numbers);
        due("reading of eye " + eye, x.reading(eye, 7, 0), 1);
        x.drop(7);
        return x;
    }

    static String times(int n, String text) {
        return text.repeat(n);
    }

    static final String BUSY_TEXT = "eye view 2;eye mod 2;eye held 1;eye choice 3;eye choice 2;eye view 3;"
        + "tie 0 1 2 by 1 0,0 1 and 1 2,3 4;tie 1 2 1 by 1 2 and 3;tie 5 0 3 by 1 0 0,0 1 0,0 0 1 and 1 0,0 1,1 1;"
        + "bar 3 0 4 0;bar 4 1 3 2;";

    /** Something of everything, by rests of 7; SHEETS 5 to 7 are missing, EYES 6 and 7 not told; status() is 0. */
    static TiedViews busy() {
        TiedViews x = told(7, BUSY_TEXT);
        items(x, 0, 0, 1, 2, 3, 4, 5);
        items(x, 1, 1, 6, 0, 7);
        items(x, 2, 2, 1, 2, 3, 4, 5, 6, 0, 1, 2, 3, 4, 5, 6, 0, 1, 2, 3, 4, 5, 6, 0, 1, 2, 3, 4, 5, 6, 0, 1, 2, 3, 4, 5, 6, 0,
            1, 2, 3, 4, 5);
        items(x, 3, 0);
        items(x, 4, 2, 6, 0, 1, -1, 7);
        x.reading(2, 0, 4);
        x.reading(0, 0, 0);
        x.hear(1, 0, 0);
        x.hear(0, 1, 0);
        x.hear(5, 0, 2);
        x.hear(2, 1, 1);
        x.now(0, 0, 3);
        x.now(1, 1, 5);
        x.now(5, 2, 1);
        x.choose(3, 5);
        x.ask(1, 1);
        read(x, "eye view 9;");
        feed(x, "eye mod 1;");
        return x;
    }

    static final String FULL_TIE = "tie 0 1 3 by 1 2 3,4 5 6,0 1 2 and 3 2 1,6 5 4,2 1 0;";

    /** As much of all as there may be, but for CHOICES: these share the EYES with the others. */
    static TiedViews full() {
        TiedViews x = told(7, times(8, "eye view 3;"), times(5, FULL_TIE), times(5, FULL_TIE));
        for (int i = 0; i < 8; i++) {
            x.sheet(i, 2, 40);
        }
        for (int i = 0; i < 8; i++) {
            x.reading(i, i, 37);
        }
        for (int i = 0; i < 16; i++) {
            x.hear(i % 8, i % 2, i % 10);
        }
        return feed(x, times(500, " "));
    }

    // ---- all that can be seen

    private static void look(Scene scene, Call call, Seen seen, Look look) {
        TiedViews x = scene.make();
        if (call != null) {
            call.on(x);
        }
        look.at(x, seen);
    }

    /** All but status() and fault(), each look at an object of its own, for many looks change it. */
    static int[] all(Scene scene, Call call) {
        Seen seen = new Seen();
        look(scene, call, seen, Edges::lookAtCounts);
        look(scene, call, seen, Edges::lookAtRows);
        look(scene, call, seen, Edges::lookAtTicks);
        look(scene, call, seen, Edges::lookAtChoices);
        look(scene, call, seen, Edges::lookAtTape);
        look(scene, call, seen, Edges::lookAtAsks);
        look(scene, call, seen, Edges::lookAtLanes);
        for (int i = 0; i < 8; i += 2) {
            int sheet = i;
            look(scene, call, seen, (x, s) -> lookAtItems(x, s, sheet));
        }
        for (int i = 0; i < 8; i++) {
            int eye = i;
            look(scene, call, seen, (x, s) -> lookAtReading(x, s, eye));
        }
        return Arrays.copyOf(seen.answers, seen.count);
    }

    private static void lookAtCounts(TiedViews x, Seen seen) {
        for (int i = 0; i < 9; i++) {
            seen.add(x.count(i));
        }
        for (int i = 0; i < 16; i++) {
            seen.add(x.trace(i));
        }
        seen.add(x.settles(0));
        seen.add(x.settles(1));
        seen.add(x.fewest());
        seen.add(x.fills(-1));
        lookAtEyes(x, seen);
        lookAtNow(x, seen);
    }

    private static void lookAtEyes(TiedViews x, Seen seen) {
        for (int i = 0; i < 5; i++) {
            seen.add(x.all(i));
        }
        for (int i = 0; i < 8; i++) {
            for (int what = 0; what < 6; what++) {
                seen.add(x.eye(i, what));
            }
            seen.add(x.kind(i));
            seen.add(x.fills(i));
        }
    }

    private static void lookAtNow(TiedViews x, Seen seen) {
        for (int i = 0; i < 8; i++) {
            for (int k = 0; k < 3; k++) {
                seen.add(x.says(i, k));
            }
        }
    }

    private static void lookAtRows(TiedViews x, Seen seen) {
        for (int c = -1; c < 24; c++) {
            seen.add(x.fill(c));
            seen.add(x.fixed(c));
            for (int k = 0; k < 3; k++) {
                seen.add(x.basis(k, c));
            }
        }
        for (int i = 0; i < 10; i++) {
            seen.add(x.cost(i));
        }
    }

    private static void lookAtTicks(TiedViews x, Seen seen) {
        for (int i = 0; i < 3; i++) {
            seen.add(x.tick(1));
            lookAtNow(x, seen);
        }
        seen.add(x.tick(100));
        lookAtNow(x, seen);
    }

    private static void lookAtChoices(TiedViews x, Seen seen) {
        seen.add(x.narrow());
        for (int i = -1; i < 8; i++) {
            seen.add(x.eye(i, 5));
            seen.add(x.fills(i));
        }
    }

    private static void lookAtTape(TiedViews x, Seen seen) {
        seen.add(x.read());
        for (int i = 0; i < 9; i++) {
            seen.add(x.count(i));
        }
        lookAtEyes(x, seen);
    }

    private static void lookAtAsks(TiedViews x, Seen seen) {
        for (int i = 0; i < 8; i++) {
            for (int what = 0; what < 2; what++) {
                seen.add(x.ask(i, what));
                for (int k = 0; k < 7; k++) {
                    seen.add(x.trace(k));
                }
            }
        }
    }

    private static void lookAtLanes(TiedViews x, Seen seen) {
        for (int i = 0; i < 8; i++) {
            for (int k = 0; k < 8; k++) {
                seen.add(x.copy(i, 0, k, 0, 0));
            }
        }
        for (int i = 0; i < 8; i++) {
            seen.add(x.drop(i));
        }
    }

    /** ITEMS can be seen only by READINGS, so a new EYE without TIES reads them, if there is room for it. */
    private static void lookAtItems(TiedViews x, Seen seen, int sheet) {
        x.read();
        int eye = Math.max(0, read(x, "eye view 1;") - 1);
        for (int i = 0; i < 8; i++) {
            x.unread(i);
        }
        int column = x.eye(eye, 2);
        for (int s = sheet; s < sheet + 2; s++) {
            for (int i = 0; i < 41; i++) {
                int got = x.reading(eye, s, i);
                seen.add(got);
                if (got != 1) {
                    continue;
                }
                seen.add(x.fixed(column));
            }
        }
    }

    private static void lookAtReading(TiedViews x, Seen seen, int eye) {
        for (int i = 0; i < 8; i++) {
            if (i != eye) {
                seen.add(x.unread(i));
            }
        }
        for (int c = -1; c < 24; c++) {
            seen.add(x.fill(c));
        }
        seen.add(x.fewest());
    }

    /** All ITEMS of a SHEET that is there, as far as they are rests of 7; others as NONE. */
    static int[] itemsOf(TiedViews x, int sheet, int length) {
        int eye = read(x, "eye view 1;") - 1;
        int[] got = new int[length];
        for (int i = 0; i < length; i++) {
            got[i] = x.reading(eye, sheet, i) == 1 ? x.fixed(x.eye(eye, 2)) : NONE;
        }
        return got;
    }

    static void dueItems(String what, TiedViews x, int sheet, int... want) {
        int[] got = itemsOf(x, sheet, want.length);
        for (int i = 0; i < want.length; i++) {
            due(what + ", item " + i, got[i], want[i]);
        }
    }

    private static void dueSame(String what, int[] got, int[] want) {
        int at = Arrays.mismatch(got, want);
        due(what + " (look " + at + " at what it left)", at < 0 ? 0 : 1, 0);
    }

    /** Two ways to one object: all that can be seen of it is the same. */
    static void same(String what, Scene scene, Scene like) {
        dueSame(what, all(scene, null), all(like, null));
        due("status() of " + what, scene.make().status(), like.make().status());
    }

    // ---- what is refused, found or asked changes nothing

    /** The call answers this, and all but status() is as if it had not been made. */
    static void refused(Scene scene, String what, int answer, Call call) {
        TiedViews x = scene.make();
        int before = x.status();
        due(what, call.on(x), answer);
        due("status() behind " + what, x.status(), statusBehind(before, answer));
        // Once more behind a FINDING, so that a status() that is left and one that is put to 0 differ.
        x = scene.make();
        x.set(7, -1, 0);
        before = x.status();
        due(what + " behind a finding", call.on(x), answer);
        due("status() behind a finding and " + what, x.status(), statusBehind(before, answer));
        due("fault() behind " + what, x.fault(), scene.make().fault());
        dueSame(what, all(scene, call), all(scene, null));
    }

    private static int statusBehind(int before, int answer) {
        boolean found = answer <= NULL && answer >= STORE;
        return found ? -1000010 - answer : before;
    }

    /** The call answers this and leaves all as it is, status() too. */
    static void asks(Scene scene, String what, int answer, Call call) {
        refused(scene, what, answer, call);
    }

    /** A text that has a FAULT: it is told, the tape is empty, and nothing else is changed. */
    static void faulty(Scene scene, String text, int place, int number) {
        TiedViews x = scene.make();
        due("tape ahead of '" + text + "'", x.count(7), 0);
        due("'" + text + "'", read(x, text), -1000100 - place);
        due("fault() of '" + text + "'", x.fault(), number);
        due("tape behind '" + text + "'", x.count(7), 0);
        due("status() behind '" + text + "'", x.status(), scene.make().status());
        dueSame("'" + text + "'", all(scene, y -> read(y, text)), all(scene, null));
    }

    /** A text that has none: as many EYES are there then. */
    static void fine(Scene scene, String text, int eyes) {
        TiedViews x = scene.make();
        due("'" + text + "'", read(x, text), eyes);
        due("fault() behind '" + text + "'", x.fault(), scene.make().fault());
        due("tape behind '" + text + "'", x.count(7), 0);
    }
}
