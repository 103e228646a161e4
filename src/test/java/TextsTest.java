import java.util.ArrayList;
import java.util.List;
import java.util.Random;

/** Spoilt texts made by a fixed seed, against a second reader that splits into tokens first. */
public final class TextsTest {
    private static final String[] PIECES = {"eye", "tie", "bar", "view", "mod", "held", "choice", "by", "and", "a", ";",
        ",", "0", "1", "2", "3", "4", "5", "12", "007", "0012", "!", "Z"};
    private static int wrong = 0;
    private static long checks = 0;

    private final int p;
    private final List<int[]> eyes = new ArrayList<>();
    private int ties = 0;
    private int bars = 0;
    private int lines = 0;

    private List<String> tokens;
    private List<Integer> places;
    private int at;
    private int fault;

    private TextsTest(int p) {
        this.p = p;
    }

    private static void due(String what, long got, long want) {
        checks++;
        if (got != want) {
            wrong++;
            System.out.println(what + " answered " + got + ", due is " + want);
        }
    }

    /** The answer that read() should give; what is told stays as it was at a fault. */
    private int read(String text) {
        split(text);
        int eyeCount = eyes.size(), tieCount = ties, barCount = bars, lineCount = lines;
        at = 0;
        fault = 0;
        while (fault == 0 && at < tokens.size() - 1) {
            sentence();
        }
        if (fault == 0) {
            return eyes.size();
        }
        while (eyes.size() > eyeCount) {
            eyes.remove(eyes.size() - 1);
        }
        ties = tieCount;
        bars = barCount;
        lines = lineCount;
        return -1000100 - places.get(at);
    }

    private void split(String text) {
        tokens = new ArrayList<>();
        places = new ArrayList<>();
        java.util.regex.Matcher m = java.util.regex.Pattern.compile("[a-z]+|[0-9]+|[^ \n]", java.util.regex.Pattern.DOTALL)
            .matcher(text);
        while (m.find()) {
            tokens.add(m.group());
            places.add(m.start());
        }
        tokens.add("");
        places.add(text.length());
    }

    private boolean word(String word) {
        if (fault == 0) {
            if (tokens.get(at).equals(word)) {
                at++;
            } else {
                fault = 1;
            }
        }
        return fault == 0;
    }

    private int number(int least, int most) {
        if (fault != 0) {
            return 0;
        }
        if (!tokens.get(at).matches("[0-9]{1,3}")) {
            fault = 1;
            return 0;
        }
        int n = Integer.parseInt(tokens.get(at));
        if (n < least || n > most) {
            fault = 2;
            return 0;
        }
        at++;
        return n;
    }

    private int eye(boolean choice, int unlike) {
        int n = number(0, 999);
        if (fault == 0 && (n >= eyes.size() || (eyes.get(n)[0] == 3) != choice || n == unlike)) {
            at--;
            fault = 2;
        }
        return n;
    }

    private void sentence() {
        switch (tokens.get(at)) {
            case "eye":
                if (eyes.size() == 8) {
                    fault = 3;
                    return;
                }
                at++;
                int sort = List.of("view", "mod", "held", "choice").indexOf(tokens.get(at));
                if (sort < 0) {
                    fault = 1;
                    return;
                }
                at++;
                int size = number(1, sort == 3 ? 4 : 3);
                if (word(";")) {
                    eyes.add(new int[] {sort, size});
                }
                return;
            case "tie":
                if (ties == 10) {
                    fault = 3;
                    return;
                }
                at++;
                int a = eye(false, -1);
                int b = eye(false, a);
                int r = number(1, 3);
                word("by");
                table(a, r);
                word("and");
                table(b, r);
                if (word(";")) {
                    ties++;
                    lines += r;
                }
                return;
            case "bar":
                if (bars == 30) {
                    fault = 3;
                    return;
                }
                at++;
                int c = eye(true, -1);
                number(0, fault == 0 ? eyes.get(c)[1] - 1 : 0);
                int d = eye(true, c);
                number(0, fault == 0 ? eyes.get(d)[1] - 1 : 0);
                if (word(";")) {
                    bars++;
                }
                return;
            default:
                fault = 1;
        }
    }

    private void table(int eye, int r) {
        for (int i = 0; i < r && fault == 0; i++) {
            if (i > 0) {
                word(",");
            }
            for (int k = 0; fault == 0 && k < eyes.get(eye)[1]; k++) {
                number(0, p - 1);
            }
        }
    }

    private String text(Random random) {
        StringBuilder s = new StringBuilder();
        List<int[]> there = new ArrayList<>(eyes);
        for (int i = random.nextInt(5); i >= 0 && s.length() < 380; i--) {
            int kind = random.nextInt(4);
            if (kind < 2) {
                int sort = random.nextInt(4);
                int size = 1 + random.nextInt(sort == 3 ? 4 : 3);
                there.add(new int[] {sort, size});
                s.append("eye ").append(PIECES[3 + sort]).append(" ").append(size).append(";");
            } else if (there.size() > 1) {
                int a = random.nextInt(there.size());
                int b = random.nextInt(there.size());
                if (kind == 2) {
                    int r = 1 + random.nextInt(3);
                    s.append("tie ").append(a).append(" ").append(b).append(" ").append(r).append(" by ");
                    rows(s, r, there.get(a)[1], random);
                    s.append(" and ");
                    rows(s, r, there.get(b)[1], random);
                } else {
                    s.append("bar ").append(a).append(" ").append(random.nextInt(there.get(a)[1])).append(" ").append(b)
                        .append(" ").append(random.nextInt(there.get(b)[1]));
                }
                s.append(random.nextBoolean() ? ";" : "\n; ");
            }
        }
        return random.nextBoolean() ? s.toString() : spoilt(s, random);
    }

    private void rows(StringBuilder s, int r, int width, Random random) {
        for (int i = 0; i < r; i++) {
            s.append(i > 0 ? "," : "");
            for (int k = 0; k < width; k++) {
                s.append(k > 0 ? " " : "").append(random.nextInt(p));
            }
        }
    }

    private static String spoilt(StringBuilder s, Random random) {
        int place = random.nextInt(s.length() + 1);
        switch (random.nextInt(4)) {
            case 0:
                s.setLength(place);
                break;
            case 1:
                s.insert(place, PIECES[random.nextInt(PIECES.length)]);
                break;
            case 2:
                if (place < s.length()) {
                    s.deleteCharAt(place);
                }
                break;
            default:
                if (place < s.length()) {
                    s.setCharAt(place, (char) random.nextInt(256));
                }
        }
        return s.toString();
    }

    public static void main(String[] args) {
        for (int seed = 0; seed < 3000; seed++) {
            Random random = new Random(seed);
            int p = new int[] {2, 3, 5, 7}[random.nextInt(4)];
            TextsTest model = new TextsTest(p);
            TiedViews x = new TiedViews(p);
            int latest = 0;
            for (int i = 0; i < 10; i++) {
                String text = model.text(random);
                Edges.feed(x, text);
                String name = "seed " + seed + " '" + text + "'";
                due("read " + name, x.read(), model.read(text));
                latest = model.fault == 0 ? latest : model.fault;
                due("fault " + name, x.fault(), latest);
                due("eyes " + name, x.count(1), model.eyes.size());
                due("ties " + name, x.count(2), model.ties);
                due("bars " + name, x.count(3), model.bars);
                due("lines " + name, x.all(2), model.lines);
                due("tape " + name, x.count(7), 0);
            }
        }
        System.out.println("texts: " + checks + " checks, " + wrong + " wrong");
        if (wrong != 0) {
            System.exit(1);
        }
    }
}
