/** The edges of promises 6 (feed) to 9 (eye), of TEXTS and of FAULTS. */
public final class EdgesOfTextsTest {
    private static final int BAD = Edges.BAD, FULL = Edges.FULL, NONE = Edges.NONE, MIN = Edges.MIN, MAX = Edges.MAX;
    private static final String EYES_3 = "eye view 1;eye mod 2;eye choice 2;eye choice 3;eye held 3;";

    /** By rests of 3: EYES 0, 1, 4 of 1, 2, 3 numbers, CHOICES 2, 3 of 2, 3 values. */
    private static TiedViews five() {
        return Edges.told(3, EYES_3);
    }

    private static TiedViews fresh() {
        return new TiedViews(3);
    }

    private static TiedViews tape(int bytes) {
        String text = "eye view 1;";
        return Edges.feed(fresh(), text + Edges.times(bytes - text.length(), " "));
    }

    // ---- promise 6: feed

    private static void feedNumbers() {
        Edges.sentence(6, "n bytes (1 to 8); BAD: n");
        for (int n = 1; n <= 8; n++) {
            Edges.due("feed of " + n, fresh().feed(0x2020202020202020L, n), n);
        }
        for (int n : new int[] {MIN, -8, -1, 0, 9, 16, MAX}) {
            Edges.refused(Edges::busy, "feed of " + n, BAD, x -> x.feed(0x2020202020202020L, n));
            Edges.refused(EdgesOfTextsTest::fresh, "first feed of " + n, BAD, x -> x.feed(0x2020202020202020L, n));
        }
        Edges.sentence(6, "BAD ahead of FULL");
        Edges.refused(() -> tape(500), "feed of 0 behind 500", BAD, x -> x.feed(32, 0));
        Edges.refused(() -> tape(500), "feed of 9 behind 500", BAD, x -> x.feed(32, 9));
        Edges.refused(() -> tape(496), "feed of 9 behind 496", BAD, x -> x.feed(32, 9));
    }

    private static void lowestBytes() {
        Edges.sentence(6, "the lowest n bytes of w, the highest of them first, come behind the tape");
        String text = "eye mod 3;eye choice 4;eye held 2;eye view 1;tie 0 2 1 by 0 1 2 and 2 1;";
        for (int n = 1; n <= 8; n++) {
            TiedViews x = fresh();
            for (int i = 0; i < text.length(); i += n) {
                int many = Math.min(n, text.length() - i);
                // What lies above the lowest bytes is no text.
                long w = -1;
                for (int k = 0; k < many; k++) {
                    w = w << 8 | text.charAt(i + k);
                }
                Edges.due("feed of " + many, x.feed(w, many), i + many);
            }
            Edges.due("read of pieces of " + n, x.read(), 4);
            Edges.due("the last eye by pieces of " + n, x.eye(3, 0) * 10 + x.eye(3, 1), 1);
            Edges.due("the tie by pieces of " + n, x.all(2), 1);
        }
        Edges.sentence(6, "a byte above 127 is a byte like others");
        TiedViews x = fresh();
        Edges.due("feed of 8", x.feed(0x20ffffffffffffffL, 8), 8);
        Edges.due("its place", x.read(), -1000101);
        Edges.due("feed of 8", x.feed(MIN, 8), 8);
        Edges.due("its place", x.read(), -1000100);
    }

    private static void tapeOf500() {
        Edges.sentence(6, "THE TAPE has at most 500 bytes");
        Edges.due("500", tape(500).count(7), 500);
        Edges.due("4 behind 496", tape(496).feed(0x20202020, 4), 500);
        Edges.due("1 behind 499", tape(499).feed(0x20, 1), 500);
        Edges.due("8 behind 492", tape(492).feed(0x2020202020202020L, 8), 500);
        Edges.sentence(6, "FULL: none comes");
        for (int n = 1; n <= 8; n++) {
            int many = n;
            Edges.refused(() -> tape(501 - many), many + " behind " + (501 - many), FULL, x -> x.feed(0x6565656565656565L, many));
            Edges.refused(() -> tape(500), many + " behind 500", FULL, x -> x.feed(0x6565656565656565L, many));
        }
        Edges.sentence(6, "what has room comes behind what had none");
        TiedViews x = tape(493);
        Edges.due("8 behind 493", x.feed(0x2020202020202020L, 8), FULL);
        Edges.due("7 behind 493", x.feed(0x20202020202020L, 7), 500);
        Edges.due("read", x.read(), 1);
        Edges.sentence(6, "THE TAPE, empty then, has room for 500 again");
        Edges.feed(x, Edges.times(500, " "));
        Edges.due("bytes", x.count(7), 500);
        Edges.due("one more", x.feed(32, 1), FULL);
    }

    // ---- promise 7: read

    private static void emptyTexts() {
        Edges.sentence(7, "nothing at all can be read: how many EYES there are");
        Edges.due("no byte", fresh().read(), 0);
        Edges.due("no byte, with eyes", five().read(), 5);
        Edges.fine(EdgesOfTextsTest::fresh, " ", 0);
        Edges.fine(EdgesOfTextsTest::five, "\n", 5);
        Edges.fine(EdgesOfTextsTest::fresh, Edges.times(500, " "), 0);
        Edges.fine(EdgesOfTextsTest::fresh, Edges.times(500, "\n"), 0);
        Edges.same("an empty text", () -> {
            TiedViews x = Edges.told(7, "eye view 1;");
            x.read();
            return x;
        }, () -> Edges.told(7, "eye view 1;"));
    }

    private static void longestTexts() {
        Edges.sentence(7, "a text of 500 bytes is read to its end");
        Edges.fine(EdgesOfTextsTest::fresh, "eye view 1" + Edges.times(489, " ") + ";", 1);
        Edges.fine(EdgesOfTextsTest::fresh, Edges.times(489, "\n") + "eye view 1;", 1);
        Edges.fine(EdgesOfTextsTest::fresh, "eye view 1;" + Edges.times(489, " "), 1);
        Edges.sentence(7, "-1000100 less the place of a FAULT, from 0 to 500");
        Edges.faulty(EdgesOfTextsTest::five, "x", 0, 1);
        Edges.faulty(EdgesOfTextsTest::five, Edges.times(499, " ") + "x", 499, 1);
        Edges.faulty(EdgesOfTextsTest::five, "eye" + Edges.times(497, " "), 500, 1);
        Edges.faulty(EdgesOfTextsTest::five, Edges.times(497, " ") + "eye", 500, 1);
    }

    private static void tapeIsEmptyThen() {
        Edges.sentence(7, "the tape, empty then");
        TiedViews x = Edges.feed(fresh(), "eye view 1;");
        x.read();
        Edges.due("behind a text", x.count(7), 0);
        Edges.due("it is not read again", x.read(), 1);
        Edges.feed(x, "eye view 1;eye");
        Edges.due("a fault", x.read(), -1000114);
        Edges.due("behind a fault", x.count(7), 0);
        Edges.due("it is not read again", x.read(), 1);
        Edges.due("a text behind it begins at 0", Edges.read(x, "?"), -1000100);
    }

    private static void noneComesBehindAFault() {
        Edges.sentence(7, "a FAULT: none comes");
        String[] before = {"eye view 3;", "eye choice 4;", "tie 0 1 1 by 1 and 1 1;", "bar 2 0 3 0;",
            "eye mod 1;tie 5 4 2 by 1,2 and 1 1 1,2 2 2;eye choice 2;bar 6 1 2 1;"};
        for (String text : before) {
            Edges.faulty(EdgesOfTextsTest::five, text + "?", text.length(), 1);
            Edges.faulty(EdgesOfTextsTest::five, text + "eye view 4;", text.length() + 9, 2);
            Edges.faulty(EdgesOfTextsTest::five, text + text.substring(0, text.indexOf(';')), text.length() + text.indexOf(';'), 1);
        }
        Edges.sentence(7, "what comes behind a FAULT is as if it had not been");
        String tie = "tie 1 0 1 by 1 2 and 1;";
        Edges.same("a tie behind a longer one with a fault", () -> {
            TiedViews x = five();
            Edges.read(x, "tie 4 1 3 by 1 1 1,2 2 2,1 1 1 and 1 1,2 2,2 1");
            Edges.read(x, tie);
            return x;
        }, () -> Edges.told(3, EYES_3, tie));
        Edges.same("an eye behind another one with a fault", () -> {
            TiedViews x = five();
            Edges.read(x, "eye choice 4;bar 5 0 2 0;eye");
            Edges.read(x, "eye view 2;");
            return x;
        }, () -> Edges.told(3, EYES_3, "eye view 2;"));
        Edges.same("a bar behind another one with a fault", () -> {
            TiedViews x = five();
            Edges.read(x, "bar 2 0 3 0;bar 2 1 3 1;bar");
            Edges.read(x, "bar 2 0 3 2;");
            return x;
        }, () -> Edges.told(3, EYES_3, "bar 2 0 3 2;"));
    }

    private static void allComeBehind() {
        Edges.sentence(7, "all come behind what there is, when all is read");
        String[] pieces = {"eye view 1;", "eye choice 2;", "eye mod 3;", "tie 2 0 2 by 1 1 0,0 2 1 and 1,2;", "eye choice 3;",
            "bar 1 0 3 1;", "eye held 2;", "tie 4 2 1 by 2 1 and 0 0 1;", "bar 3 2 1 1;"};
        Edges.same("a text at once and in pieces", () -> Edges.told(5, pieces), () -> Edges.told(5, String.join("", pieces)));
        Edges.sentence(7, "what there is stays as it is");
        TiedViews x = Edges.busy();
        int first = x.read();
        Edges.due("the eye on the tape", first, 7);
        Edges.due("readings", x.count(4), 2);
        Edges.due("rules", x.count(5), 4);
        Edges.due("a set", x.eye(3, 5), 5);
        Edges.due("now", x.says(0, 0) * 100 + x.says(1, 1) * 10 + x.says(5, 2), 351);
        Edges.due("the new one has no reading", x.eye(6, 3), 0);
        Edges.due("the new one's column", x.eye(6, 2), 8);
        Edges.due("the new one's number of now", x.says(6, 0), 0);
    }

    // ---- promise 8: fault

    private static void faultNumbers() {
        Edges.sentence(8, "0 before one");
        Edges.due("new", fresh().fault(), 0);
        Edges.due("behind a text", five().fault(), 0);
        Edges.due("behind an unread one", Edges.feed(fresh(), "?").fault(), 0);
        Edges.due("behind a FULL tape", feedOnce(tape(500)).fault(), 0);
        Edges.sentence(8, "the number of the latest FAULT");
        TiedViews x = Edges.told(3, Edges.times(8, "eye view 1;"));
        int[][] dues = {{1, -1000100}, {2, -1000104}, {3, -1000100}, {2, -1000104}, {1, -1000100}, {3, -1000100}};
        String[] texts = {"?", "tie 8", "eye", "bar 0", ";", "eye view 1;"};
        for (int i = 0; i < texts.length; i++) {
            Edges.due("'" + texts[i] + "'", Edges.read(x, texts[i]), dues[i][1]);
            Edges.due("fault of '" + texts[i] + "'", x.fault(), dues[i][0]);
        }
        Edges.sentence(8, "the latest stays while texts have none");
        Edges.due("a text without one", Edges.read(x, "tie 0 1 1 by 1 and 1;"), 8);
        Edges.due("fault", x.fault(), 3);
        Edges.due("no text", x.read(), 8);
        Edges.due("fault", x.fault(), 3);
        Edges.due("asked twice", x.fault(), 3);
    }

    private static TiedViews feedOnce(TiedViews x) {
        x.feed(32, 1);
        return x;
    }

    // ---- TOKENS

    private static void names() {
        Edges.sentence(7, "NAMES (letters a to z)");
        // A letter more makes another NAME, which begins where the word began; what is no letter ends it.
        Edges.faulty(EdgesOfTextsTest::five, "eyea view 1;", 0, 1);
        Edges.faulty(EdgesOfTextsTest::five, "eyez view 1;", 0, 1);
        Edges.faulty(EdgesOfTextsTest::five, "eye`view 1;", 3, 1);
        Edges.faulty(EdgesOfTextsTest::five, "eye{view 1;", 3, 1);
        Edges.faulty(EdgesOfTextsTest::five, "eyeA view 1;", 3, 1);
        Edges.faulty(EdgesOfTextsTest::five, "eyeZ view 1;", 3, 1);
        Edges.faulty(EdgesOfTextsTest::five, "Eye view 1;", 0, 1);
        Edges.faulty(EdgesOfTextsTest::five, "EYE view 1;", 0, 1);
        Edges.faulty(EdgesOfTextsTest::five, "ey view 1;", 0, 1);
        Edges.faulty(EdgesOfTextsTest::five, "ey e view 1;", 0, 1);
        Edges.faulty(EdgesOfTextsTest::five, "a", 0, 1);
        Edges.faulty(EdgesOfTextsTest::five, "z", 0, 1);
        Edges.faulty(EdgesOfTextsTest::five, Edges.times(500, "e"), 0, 1);
    }

    private static void numbers() {
        Edges.sentence(7, "NUMBERS (figures, 3 at most)");
        Edges.fine(EdgesOfTextsTest::five, "eye view 1;", 6);
        Edges.fine(EdgesOfTextsTest::five, "eye view 01;", 6);
        Edges.fine(EdgesOfTextsTest::five, "eye view 001;", 6);
        Edges.faulty(EdgesOfTextsTest::five, "eye view 0001;", 9, 1);
        Edges.faulty(EdgesOfTextsTest::five, "eye view 00001;", 9, 1);
        Edges.faulty(EdgesOfTextsTest::five, "eye view 1000;", 9, 1);
        Edges.faulty(EdgesOfTextsTest::five, "eye view 999;", 9, 2);
        Edges.faulty(EdgesOfTextsTest::five, "eye view 100;", 9, 2);
        Edges.faulty(EdgesOfTextsTest::five, "eye view 4294967297;", 9, 1);
        Edges.faulty(EdgesOfTextsTest::five, "eye view " + Edges.times(491, "1"), 9, 1);
        Edges.faulty(EdgesOfTextsTest::five, "eye view -1;", 9, 1);
        Edges.faulty(EdgesOfTextsTest::five, "eye view +1;", 9, 1);
        Edges.faulty(EdgesOfTextsTest::five, "eye view 1/;", 10, 1);
        Edges.faulty(EdgesOfTextsTest::five, "eye view 1:;", 10, 1);
        Edges.faulty(EdgesOfTextsTest::five, "eye view 0;", 9, 2);
        Edges.faulty(EdgesOfTextsTest::five, "eye view 9;", 9, 2);
        Edges.faulty(EdgesOfTextsTest::five, "eye view 19;", 9, 2);
        Edges.faulty(EdgesOfTextsTest::five, "eye view 10;", 9, 2);
    }

    private static void signs() {
        Edges.sentence(7, "SIGNS ; ,");
        for (String sign : new String[] {":", "<", "+", "-", ".", "!", "(", "\"", "\0", "\u0001", "\u0002", "\u0003", "\u00bb", "\u00ff"}) {
            Edges.faulty(EdgesOfTextsTest::five, "eye view 1" + sign, 10, 1);
            Edges.faulty(EdgesOfTextsTest::five, "eye view 1;" + sign, 11, 1);
            Edges.faulty(EdgesOfTextsTest::five, "tie 1 4 2 by 0 1" + sign + "2 0 and 0 0 0,0 0 0;", 16, 1);
        }
        Edges.faulty(EdgesOfTextsTest::five, "eye view 1,", 10, 1);
        Edges.faulty(EdgesOfTextsTest::five, "eye view 1;,", 11, 1);
        Edges.faulty(EdgesOfTextsTest::five, "eye view 1;;", 11, 1);
        Edges.faulty(EdgesOfTextsTest::five, ";", 0, 1);
        Edges.faulty(EdgesOfTextsTest::five, ",", 0, 1);
    }

    private static void gaps() {
        Edges.sentence(7, "bytes 32 and 10 between");
        Edges.fine(EdgesOfTextsTest::five, "\n\n eye \n view\n1 \n; \n", 6);
        Edges.fine(EdgesOfTextsTest::five, "tie\n0\n1\n2\nby\n1\n,\n2\nand\n1\n2\n,\n0\n1\n;\n", 5);
        Edges.fine(EdgesOfTextsTest::five, "eye view 1;eye view 1;eye view 1;", 8);
        Edges.sentence(7, "TOKENS need no byte between, where they end by themselves");
        Edges.fine(EdgesOfTextsTest::five, "eye view1;tie0 1 2by1,2and1 2,0 1;bar2 0 3 0;", 6);
        Edges.sentence(7, "no other bytes between");
        for (char gap : new char[] {0, 9, 11, 12, 13, 31, 33, 127, 160, 255}) {
            Edges.faulty(EdgesOfTextsTest::five, "eye" + gap + "view 1;", 3, 1);
            Edges.faulty(EdgesOfTextsTest::five, gap + "eye view 1;", 0, 1);
            Edges.faulty(EdgesOfTextsTest::five, "eye view 1;" + gap, 11, 1);
        }
    }

    // ---- texts

    private static void sorts() {
        Edges.sentence(7, "sort: 'view' | 'mod' | 'held' | 'choice' (0 to 3)");
        String[] names = {"view", "mod", "held", "choice"};
        for (int i = 0; i < 4; i++) {
            TiedViews x = Edges.told(3, "eye " + names[i] + " 1;");
            Edges.due("sort of " + names[i], x.eye(0, 0), i);
        }
        for (String name : new String[] {"views", "vie", "eye", "tie", "bar", "by", "and", "modd", "hel", "choic", "choices", "1", ";"}) {
            Edges.faulty(EdgesOfTextsTest::five, "eye " + name + " 1;", 4, 1);
        }
    }

    /** Other letters at one place alone, from the first to the last, make another NAME. */
    private static void wordsByLetters() {
        Edges.sentence(7, "a word is that word to the letter");
        String[][] texts = {{"eye", " view 1;"}, {"eye ", "view", " 1;"}, {"eye ", "mod", " 1;"}, {"eye ", "held", " 1;"},
            {"eye ", "choice", " 1;"}, {"tie", " 0 1 1 by 1 and 1 1;"}, {"tie 0 1 1 ", "by", " 1 and 1 1;"},
            {"tie 0 1 1 by 1 ", "and", " 1 1;"}, {"bar", " 2 0 3 0;"}};
        for (String[] t : texts) {
            String ahead = t.length == 3 ? t[0] : "";
            String word = t[t.length - 2];
            String behind = t[t.length - 1];
            Edges.fine(EdgesOfTextsTest::five, ahead + word + behind, t[0].startsWith("eye") ? 6 : 5);
            for (int i = 0; i < word.length(); i++) {
                String other = word.substring(0, i) + "q" + word.substring(i + 1);
                Edges.faulty(EdgesOfTextsTest::five, ahead + other + behind, ahead.length(), 1);
            }
            Edges.faulty(EdgesOfTextsTest::five, ahead + word.substring(1) + behind, ahead.length(), 1);
            Edges.faulty(EdgesOfTextsTest::five, ahead + word + "s" + behind, ahead.length(), 1);
        }
    }

    private static void howManyNumbers() {
        for (String sort : new String[] {"view", "mod", "held"}) {
            Edges.sentence(7, "how many numbers it has (1 to 3), '" + sort + "'");
            int at = 5 + sort.length();
            for (int n = 1; n <= 3; n++) {
                TiedViews x = Edges.told(3, "eye " + sort + " " + n + ";");
                Edges.due("size", x.eye(0, 1), n);
                Edges.due("columns", x.all(1), n);
            }
            Edges.faulty(EdgesOfTextsTest::five, "eye " + sort + " 0;", at, 2);
            Edges.faulty(EdgesOfTextsTest::five, "eye " + sort + " 4;", at, 2);
        }
        Edges.sentence(7, "of a choice how many values (1 to 4)");
        for (int n = 1; n <= 4; n++) {
            TiedViews x = Edges.told(3, "eye choice " + n + ";");
            Edges.due("size", x.eye(0, 1), n);
            Edges.due("columns", x.all(1), 0);
        }
        Edges.faulty(EdgesOfTextsTest::five, "eye choice 0;", 11, 2);
        Edges.faulty(EdgesOfTextsTest::five, "eye choice 5;", 11, 2);
    }

    private static void endsOfEyeSentences() {
        Edges.sentence(7, "FAULT 1 at the end: how many bytes there are");
        String eye = "eye view 1;";
        for (int n : new int[] {3, 4, 8, 9, 10}) {
            Edges.faulty(EdgesOfTextsTest::five, eye.substring(0, n), n, 1);
            Edges.faulty(EdgesOfTextsTest::five, eye.substring(0, n) + " \n ", n + 3, 1);
        }
        String tie = "tie 0 1 2 by 1,2 and 1 2,0 1;";
        for (int n : new int[] {3, 5, 7, 9, 12, 14, 15, 16, 20, 22, 24, 25, 27, 28}) {
            Edges.faulty(EdgesOfTextsTest::five, tie.substring(0, n), n, 1);
            Edges.faulty(EdgesOfTextsTest::five, tie.substring(0, n) + "\n", n + 1, 1);
        }
        String bar = "bar 2 0 3 0;";
        for (int n : new int[] {3, 5, 7, 9, 11}) {
            Edges.faulty(EdgesOfTextsTest::five, bar.substring(0, n), n, 1);
            Edges.faulty(EdgesOfTextsTest::five, bar.substring(0, n) + "  ", n + 2, 1);
        }
    }

    private static void wordsThatCannotStand() {
        Edges.sentence(7, "FAULT 1: it cannot stand there");
        Edges.faulty(EdgesOfTextsTest::five, "view 1;", 0, 1);
        Edges.faulty(EdgesOfTextsTest::five, "1", 0, 1);
        Edges.faulty(EdgesOfTextsTest::five, "by", 0, 1);
        Edges.faulty(EdgesOfTextsTest::five, "eye 1;", 4, 1);
        Edges.faulty(EdgesOfTextsTest::five, "eye view view;", 9, 1);
        Edges.faulty(EdgesOfTextsTest::five, "eye view;", 8, 1);
        Edges.faulty(EdgesOfTextsTest::five, "eye view 1 1;", 11, 1);
        Edges.faulty(EdgesOfTextsTest::five, "eye view 1 eye", 11, 1);
        Edges.faulty(EdgesOfTextsTest::five, "tie by", 4, 1);
        Edges.faulty(EdgesOfTextsTest::five, "tie 0 by", 6, 1);
        Edges.faulty(EdgesOfTextsTest::five, "tie 0 1 by", 8, 1);
        Edges.faulty(EdgesOfTextsTest::five, "tie 0 1 1 1", 10, 1);
        Edges.faulty(EdgesOfTextsTest::five, "tie 0 1 1 and", 10, 1);
        Edges.faulty(EdgesOfTextsTest::five, "tie 0 1 1 by and", 13, 1);
        Edges.faulty(EdgesOfTextsTest::five, "tie 0 1 1 by 1 by", 15, 1);
        Edges.faulty(EdgesOfTextsTest::five, "tie 0 1 1 by 1;", 14, 1);
        Edges.faulty(EdgesOfTextsTest::five, "tie 0 1 1 by 1 and ;", 19, 1);
        Edges.faulty(EdgesOfTextsTest::five, "tie 0 1 1 by 1 and 1 1 and", 23, 1);
        Edges.faulty(EdgesOfTextsTest::five, "bar ;", 4, 1);
        Edges.faulty(EdgesOfTextsTest::five, "bar 2;", 5, 1);
        Edges.faulty(EdgesOfTextsTest::five, "bar 2 0;", 7, 1);
        Edges.faulty(EdgesOfTextsTest::five, "bar 2 0,3 0;", 7, 1);
        Edges.faulty(EdgesOfTextsTest::five, "bar 2 0 3;", 9, 1);
        Edges.faulty(EdgesOfTextsTest::five, "bar 2 0 3 0 0;", 12, 1);
        Edges.faulty(EdgesOfTextsTest::five, "bar 2 0 3 0,", 11, 1);
    }

    private static void eyesOfTies() {
        Edges.sentence(7, "a TIE: two EYES, told already");
        Edges.fine(EdgesOfTextsTest::five, "tie 4 0 1 by 1 1 1 and 1;", 5);
        Edges.faulty(EdgesOfTextsTest::five, "tie 5 0 1 by 1 and 1;", 4, 2);
        Edges.faulty(EdgesOfTextsTest::five, "tie 0 5 1 by 1 and 1;", 6, 2);
        Edges.faulty(EdgesOfTextsTest::five, "tie 8 0 1 by 1 and 1;", 4, 2);
        Edges.faulty(EdgesOfTextsTest::five, "tie 999 0 1 by 1 and 1;", 4, 2);
        Edges.faulty(EdgesOfTextsTest::five, "tie 0 999 1 by 1 and 1;", 6, 2);
        Edges.faulty(EdgesOfTextsTest::fresh, "tie 0 1 1 by 1 and 1;", 4, 2);
        Edges.fine(EdgesOfTextsTest::five, "eye view 1;tie 5 0 1 by 1 and 1;", 6);
        Edges.fine(EdgesOfTextsTest::five, "eye view 1;tie 0 5 1 by 1 and 1;", 6);
        Edges.faulty(EdgesOfTextsTest::five, "tie 5 0 1 by 1 and 1;eye view 1;", 4, 2);
        Edges.faulty(EdgesOfTextsTest::five, "tie 0 5 1 by 1 and 1;eye view 1;", 6, 2);
        Edges.sentence(7, "two EYES, unlike");
        for (int i : new int[] {0, 1, 4}) {
            Edges.faulty(EdgesOfTextsTest::five, "tie " + i + " " + i + " 1 by 1 and 1;", 6, 2);
        }
        Edges.sentence(7, "two EYES, no choices");
        Edges.faulty(EdgesOfTextsTest::five, "tie 2 0 1 by 1 and 1;", 4, 2);
        Edges.faulty(EdgesOfTextsTest::five, "tie 3 0 1 by 1 and 1;", 4, 2);
        Edges.faulty(EdgesOfTextsTest::five, "tie 0 2 1 by 1 and 1;", 6, 2);
        Edges.faulty(EdgesOfTextsTest::five, "tie 0 3 1 by 1 and 1;", 6, 2);
    }

    private static void tables() {
        Edges.sentence(7, "how many numbers r the tie has (1 to 3)");
        Edges.fine(EdgesOfTextsTest::five, "tie 0 1 1 by 1 and 1 1;", 5);
        Edges.fine(EdgesOfTextsTest::five, "tie 0 1 3 by 1,1,1 and 1 1,1 1,1 1;", 5);
        Edges.faulty(EdgesOfTextsTest::five, "tie 0 1 0 by 1 and 1 1;", 8, 2);
        Edges.faulty(EdgesOfTextsTest::five, "tie 0 1 4 by 1,1,1,1 and 1 1,1 1,1 1,1 1;", 8, 2);
        Edges.sentence(7, "r rows");
        for (int r = 1; r <= 3; r++) {
            TiedViews x = five();
            String text = "tie 0 1 " + r + " by 1" + Edges.times(r - 1, ",1") + " and 1 1" + Edges.times(r - 1, ",1 1") + ";";
            Edges.due("'" + text + "'", Edges.read(x, text), 5);
            Edges.due("lines of '" + text + "'", x.all(2), r);
        }
        Edges.faulty(EdgesOfTextsTest::five, "tie 0 1 2 by 1 and 1 1;", 15, 1);
        Edges.faulty(EdgesOfTextsTest::five, "tie 0 1 1 by 1,1 and 1 1;", 14, 1);
        Edges.faulty(EdgesOfTextsTest::five, "tie 0 1 3 by 1,1,1,1 and 1 1;", 18, 1);
        Edges.faulty(EdgesOfTextsTest::five, "tie 0 1 2 by 1,1 and 1 1;", 24, 1);
        Edges.faulty(EdgesOfTextsTest::five, "tie 0 1 1 by 1 and 1 1,1 1;", 22, 1);
        Edges.sentence(7, "as many NUMBERS as the EYE has");
        Edges.faulty(EdgesOfTextsTest::five, "tie 0 1 1 by 1 1 and 1 1;", 15, 1);
        Edges.faulty(EdgesOfTextsTest::five, "tie 1 0 1 by 1 and 1;", 15, 1);
        Edges.faulty(EdgesOfTextsTest::five, "tie 0 4 1 by 1 and 1 1;", 22, 1);
        Edges.faulty(EdgesOfTextsTest::five, "tie 0 4 1 by 1 and 1 1 1 1;", 25, 1);
        Edges.faulty(EdgesOfTextsTest::five, "tie 1 4 2 by 1 1,1 and 1 1 1,1 1 1;", 19, 1);
        Edges.sentence(7, "',' behind each row but the last");
        Edges.faulty(EdgesOfTextsTest::five, "tie 0 1 2 by 1 1 and 1 1,1 1;", 15, 1);
        Edges.faulty(EdgesOfTextsTest::five, "tie 0 1 2 by 1,1, and 1 1,1 1;", 16, 1);
        Edges.faulty(EdgesOfTextsTest::five, "tie 0 1 2 by ,1,1 and 1 1,1 1;", 13, 1);
        Edges.faulty(EdgesOfTextsTest::five, "tie 0 1 2 by 1,,1 and 1 1,1 1;", 15, 1);
        Edges.faulty(EdgesOfTextsTest::five, "tie 0 1 2 by 1,1 and 1 1,1 1,;", 28, 1);
        Edges.faulty(EdgesOfTextsTest::five, "tie 0 1 2 by 1,1 and 1 1 1 1;", 25, 1);
        Edges.faulty(EdgesOfTextsTest::five, "tie 0 1 1 by 1 and 1,1;", 20, 1);
    }

    private static void restsInTables() {
        Edges.sentence(7, "FAULT 2: a NUMBER that is no rest");
        for (int p : Edges.PRIMES) {
            Edges.Scene two = () -> Edges.told(p, "eye view 1;eye view 2;");
            Edges.fine(two, "tie 0 1 1 by 0 and 0 0;", 2);
            Edges.fine(two, "tie 0 1 1 by " + (p - 1) + " and " + (p - 1) + " " + (p - 1) + ";", 2);
            Edges.faulty(two, "tie 0 1 1 by " + p + " and 0 0;", 13, 2);
            Edges.faulty(two, "tie 0 1 1 by 0 and " + p + " 0;", 19, 2);
            Edges.faulty(two, "tie 0 1 1 by 0 and 0 " + p + ";", 21, 2);
            Edges.faulty(two, "tie 0 1 2 by 0," + p + " and 0 0,0 0;", 15, 2);
            Edges.faulty(two, "tie 0 1 1 by 999 and 0 0;", 13, 2);
        }
        Edges.sentence(7, "how many numbers there are is no rest, whatever THE PRIME");
        Edges.fine(() -> new TiedViews(2), "eye view 3;eye choice 4;eye view 1;tie 0 2 3 by 1 1 1,1 1 1,1 1 1 and 1,1,1;", 3);
    }

    private static void bars() {
        Edges.sentence(7, "'bar': a choice");
        Edges.fine(EdgesOfTextsTest::five, "bar 2 0 3 0;", 5);
        Edges.fine(EdgesOfTextsTest::five, "bar 3 0 2 0;", 5);
        for (int i : new int[] {0, 1, 4, 5, 8, 999}) {
            Edges.faulty(EdgesOfTextsTest::five, "bar " + i + " 0 3 0;", 4, 2);
        }
        Edges.faulty(EdgesOfTextsTest::fresh, "bar 0 0 1 0;", 4, 2);
        Edges.fine(EdgesOfTextsTest::five, "eye choice 1;bar 5 0 3 0;", 6);
        Edges.faulty(EdgesOfTextsTest::five, "bar 5 0 3 0;eye choice 1;", 4, 2);
        Edges.sentence(7, "'bar': a value of it");
        Edges.fine(EdgesOfTextsTest::five, "bar 2 1 3 0;", 5);
        Edges.faulty(EdgesOfTextsTest::five, "bar 2 2 3 0;", 6, 2);
        Edges.fine(EdgesOfTextsTest::five, "bar 3 2 2 0;", 5);
        Edges.faulty(EdgesOfTextsTest::five, "bar 3 3 2 0;", 6, 2);
        Edges.faulty(EdgesOfTextsTest::five, "bar 2 999 3 0;", 6, 2);
        Edges.sentence(7, "'bar': another choice");
        for (int i : new int[] {0, 1, 4, 5, 8, 999}) {
            Edges.faulty(EdgesOfTextsTest::five, "bar 2 0 " + i + " 0;", 8, 2);
        }
        Edges.faulty(EdgesOfTextsTest::five, "bar 2 0 2 1;", 8, 2);
        Edges.faulty(EdgesOfTextsTest::five, "bar 3 0 3 0;", 8, 2);
        Edges.fine(EdgesOfTextsTest::five, "eye choice 1;bar 3 0 5 0;", 6);
        Edges.sentence(7, "'bar': a value of that");
        Edges.fine(EdgesOfTextsTest::five, "bar 2 0 3 2;", 5);
        Edges.faulty(EdgesOfTextsTest::five, "bar 2 0 3 3;", 10, 2);
        Edges.fine(EdgesOfTextsTest::five, "bar 3 0 2 1;", 5);
        Edges.faulty(EdgesOfTextsTest::five, "bar 3 0 2 2;", 10, 2);
        Edges.sentence(7, "these two do not go together, and no others");
        TiedViews x = Edges.told(3, EYES_3, "bar 2 1 3 2;");
        Edges.due("ways", x.fills(-1), 5);
        x.choose(2, 2);
        x.choose(3, 4);
        Edges.due("ways of these two", x.fills(-1), 0);
        Edges.sentence(7, "a bar told again is a bar more");
        x = Edges.told(3, EYES_3, "bar 2 1 3 2;bar 2 1 3 2;bar 3 2 2 1;");
        Edges.due("bars", x.count(3), 3);
        Edges.due("ways", x.fills(-1), 5);
    }

    // ---- room

    private static void roomForEyes() {
        Edges.sentence(7, "EYES 0 .. 7 (8 at most), FAULT 3 (its first word)");
        String eye = "eye view 1;";
        Edges.fine(EdgesOfTextsTest::fresh, Edges.times(8, eye), 8);
        Edges.faulty(EdgesOfTextsTest::fresh, Edges.times(9, eye), 88, 3);
        Edges.Scene seven = () -> Edges.told(3, Edges.times(7, eye));
        Edges.fine(seven, eye, 8);
        Edges.faulty(seven, eye + eye, 11, 3);
        Edges.faulty(seven, eye + "\n eye", 13, 3);
        Edges.Scene eight = () -> Edges.told(3, Edges.times(8, eye));
        Edges.faulty(eight, eye, 0, 3);
        Edges.faulty(eight, "  eye choice 4;", 2, 3);
        Edges.fine(() -> Edges.told(3, Edges.times(7, eye)), "eye choice 4;", 8);
        Edges.fine(eight, "tie 7 0 1 by 1 and 1;", 8);
        Edges.sentence(7, "FAULT 3 is of its first word, so ahead of those behind it");
        Edges.faulty(eight, "eye", 0, 3);
        Edges.faulty(eight, "eye view 9;", 0, 3);
        Edges.faulty(eight, "eye ?", 0, 3);
        Edges.sentence(7, "a FAULT of an earlier TOKEN goes ahead of FAULT 3");
        Edges.faulty(eight, "? eye view 1;", 0, 1);
        Edges.faulty(seven, "eye view 4;eye view 1;", 9, 2);
        Edges.faulty(seven, "eye view 1 eye view 1;", 11, 1);
        Edges.faulty(eight, "tie 8 0 1 by 1 and 1;eye view 1;", 4, 2);
    }

    private static void roomForTies() {
        Edges.sentence(7, "TIES 0 .. 9 (10 at most), FAULT 3 (its first word)");
        String tie = "tie 0 1 1 by 1 and 1 1;";
        Edges.fine(EdgesOfTextsTest::five, Edges.times(10, tie), 5);
        Edges.faulty(EdgesOfTextsTest::five, Edges.times(11, tie), 230, 3);
        Edges.Scene nine = () -> Edges.told(3, EYES_3, Edges.times(9, tie));
        Edges.fine(nine, tie, 5);
        Edges.faulty(nine, tie + tie, 23, 3);
        Edges.Scene ten = () -> Edges.told(3, EYES_3, Edges.times(10, tie));
        Edges.faulty(ten, tie, 0, 3);
        Edges.faulty(ten, " tie", 1, 3);
        Edges.faulty(ten, "tie 9 9", 0, 3);
        Edges.fine(ten, "eye view 1;bar 2 0 3 0;", 6);
        Edges.faulty(ten, "eye view 1;tie 5 0 1 by 1 and 1;", 11, 3);
    }

    private static void roomForBars() {
        Edges.sentence(7, "bars (30 at most), FAULT 3 (its first word)");
        String bar = "bar 2 0 3 0;";
        Edges.fine(EdgesOfTextsTest::five, Edges.times(30, bar), 5);
        Edges.faulty(EdgesOfTextsTest::five, Edges.times(31, bar), 360, 3);
        Edges.Scene almost = () -> Edges.told(3, EYES_3, Edges.times(29, bar));
        Edges.fine(almost, bar, 5);
        Edges.faulty(almost, bar + bar, 12, 3);
        Edges.Scene thirty = () -> Edges.told(3, EYES_3, Edges.times(30, bar));
        Edges.faulty(thirty, bar, 0, 3);
        Edges.faulty(thirty, "\nbar", 1, 3);
        Edges.faulty(thirty, "bar 0", 0, 3);
        Edges.fine(thirty, "eye view 1;tie 5 0 1 by 1 and 1;", 6);
        Edges.faulty(thirty, "eye view 1;bar 2 0 3 1;", 11, 3);
        Edges.sentence(7, "the last bar that there is room for counts");
        TiedViews x = Edges.told(3, EYES_3, Edges.times(29, bar), "bar 2 1 3 2;");
        Edges.due("ways", x.fills(-1), 4);
    }

    private static void leastFaultOfOneToken() {
        Edges.sentence(7, "of one TOKEN the least");
        // A NUMBER that is not as told, where none can stand.
        Edges.faulty(EdgesOfTextsTest::five, "eye 9;", 4, 1);
        Edges.faulty(EdgesOfTextsTest::five, "tie 0 1 1 by 1 9 and 1 1;", 15, 1);
        Edges.faulty(EdgesOfTextsTest::five, "tie 0 1 1 9", 10, 1);
        // A word that there is no room for, where it cannot stand.
        Edges.Scene eight = () -> Edges.told(3, Edges.times(8, "eye view 1;"));
        Edges.faulty(eight, "tie eye", 4, 1);
        // A NUMBER of figures too many is no TOKEN, whatever it says.
        Edges.faulty(EdgesOfTextsTest::five, "tie 0000 1 1 by 1 and 1 1;", 4, 1);
        Edges.sentence(7, "the first TOKEN that has one");
        Edges.faulty(EdgesOfTextsTest::five, "eye view 4?", 9, 2);
        Edges.faulty(EdgesOfTextsTest::five, "tie 2 2 9 by", 4, 2);
        Edges.faulty(EdgesOfTextsTest::five, "bar 2 2 2 2?", 6, 2);
    }

    // ---- promise 9: eye

    private static void eyeNumbers() {
        Edges.sentence(9, "BAD: no such EYE");
        for (int i : new int[] {MIN, -1, 6, 7, 8, MAX}) {
            for (int w = 0; w < 6; w++) {
                int what = w;
                Edges.refused(Edges::busy, "eye(" + i + ", " + what + ")", BAD, x -> x.eye(i, what));
            }
        }
        Edges.sentence(9, "BAD: what (0 to 5)");
        for (int what : new int[] {MIN, -1, 6, 7, MAX}) {
            Edges.refused(Edges::busy, "eye(0, " + what + ")", BAD, x -> x.eye(0, what));
            Edges.refused(Edges::busy, "eye(3, " + what + ")", BAD, x -> x.eye(3, what));
        }
        Edges.sentence(9, "sort, size, first COLUMN, READING, TIES, SET");
        int[][] dues = {{0, 2, 0, 1, 2, NONE}, {1, 2, 2, 0, 2, NONE}, {2, 1, 4, 1, 1, NONE}, {3, 3, NONE, 0, 0, 5},
            {3, 2, NONE, 0, 0, 3}, {0, 3, 5, 0, 1, NONE}};
        for (int i = 0; i < 6; i++) {
            for (int w = 0; w < 6; w++) {
                int eye = i;
                int what = w;
                Edges.asks(Edges::busy, "eye(" + i + ", " + w + ")", dues[i][w], x -> x.eye(eye, what));
            }
        }
    }

    private static void eyeExtremes() {
        Edges.sentence(9, "the first COLUMN: from 0 to 21, CHOICES have none");
        TiedViews x = Edges.full();
        for (int i = 0; i < 8; i++) {
            Edges.due("column of eye " + i, x.eye(i, 2), 3 * i);
        }
        x = Edges.told(2, "eye choice 4;eye choice 1;eye held 1;eye choice 3;eye view 3;eye choice 2;eye mod 2;eye view 1;");
        int[] columns = {NONE, NONE, 0, NONE, 1, NONE, 4, 6};
        for (int i = 0; i < 8; i++) {
            Edges.due("column of eye " + i, x.eye(i, 2), columns[i]);
        }
        Edges.sentence(9, "its SET: all values at first");
        int[] sets = {15, 1, NONE, 7, NONE, 3, NONE, NONE};
        for (int i = 0; i < 8; i++) {
            Edges.due("set of eye " + i, x.eye(i, 5), sets[i]);
        }
        Edges.sentence(9, "how many TIES it is in: none, and all 10");
        x = Edges.full();
        Edges.due("all", x.eye(0, 4), 10);
        Edges.due("all", x.eye(1, 4), 10);
        Edges.due("none", x.eye(2, 4), 0);
        Edges.sentence(9, "a SET without values is 0");
        x = Edges.told(2, "eye choice 1;eye choice 1;bar 0 0 1 0;");
        x.narrow();
        Edges.due("set 0", x.eye(0, 5), 0);
        Edges.due("set 1", x.eye(1, 5), 0);
    }

    public static void main(String[] args) {
        feedNumbers();
        lowestBytes();
        tapeOf500();
        emptyTexts();
        longestTexts();
        tapeIsEmptyThen();
        noneComesBehindAFault();
        allComeBehind();
        faultNumbers();
        names();
        numbers();
        signs();
        gaps();
        sorts();
        wordsByLetters();
        howManyNumbers();
        endsOfEyeSentences();
        wordsThatCannotStand();
        eyesOfTies();
        tables();
        restsInTables();
        bars();
        roomForEyes();
        roomForTies();
        roomForBars();
        leastFaultOfOneToken();
        eyeNumbers();
        eyeExtremes();
        Edges.end("edges of texts");
    }
}
