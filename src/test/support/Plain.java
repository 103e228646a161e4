import java.util.ArrayList;
import java.util.List;

/**
 * The document once more, sentence by sentence and as plainly as can be: nothing is kept that can be
 * worked out, and whatever is asked is worked out anew. Tests compare the class with it.
 */
final class Plain {
    static final int NONE = -1000000, BAD = -1000001, FULL = -1000003;
    static final int NULL = 1, PLACE = 2, KIND = 3, SIZE = 4, STORE = 5;
    private static final List<String> SORTS = List.of("view", "mod", "held", "choice");

    /** What is refused or found; it ends the call before anything has changed. */
    private static final class Refused extends RuntimeException {
        final int answer;

        Refused(int answer) {
            super(null, null, false, false);
            this.answer = answer;
        }
    }

    /** The first TOKEN that has a FAULT. */
    private static final class Faulty extends Exception {
        final int fault;
        final int place;

        Faulty(int fault, int place) {
            super(null, null, false, false);
            this.fault = fault;
            this.place = place;
        }
    }

    private record Sheet(int lane, int[] items) {
    }

    private static final class Eye {
        String sort;
        int size;
        int[] reading = null;
        int[] now = new int[3];
        List<Integer> set = new ArrayList<>();

        boolean isChoice() {
            return sort.equals("choice");
        }
    }

    private record Tie(int a, int b, int[][] tableOfA, int[][] tableOfB) {
    }

    private record Rule(int to, int from, int tie) {
    }

    private record Token(char type, String text, int place) {
    }

    private interface Call {
        int answer();
    }

    private final int prime;
    private final Sheet[] sheets = new Sheet[8];
    private List<Eye> eyes = new ArrayList<>();
    private List<Tie> ties = new ArrayList<>();
    private List<int[]> bars = new ArrayList<>();
    private final List<Rule> rules = new ArrayList<>();
    private final List<Integer> tape = new ArrayList<>();
    private final List<Integer> trace = new ArrayList<>();
    private int fault = 0;
    private int status = 0;

    Plain(int prime) {
        this.prime = List.of(2, 3, 5, 7).contains(prime) ? prime : 7;
    }

    // ---- refusals

    private static void bad(boolean so) {
        if (so) {
            throw new Refused(BAD);
        }
    }

    private static void full(boolean so) {
        if (so) {
            throw new Refused(FULL);
        }
    }

    private static void find(int finding, boolean so) {
        if (so) {
            throw new Refused(-1000010 - finding);
        }
    }

    private static int plain(Call call) {
        try {
            return call.answer();
        } catch (Refused r) {
            return r.answer;
        }
    }

    /** A call with a SHEET, or as(): its FINDING is told by status(), unless it is BAD. */
    private int withStatus(Call call) {
        try {
            int answer = call.answer();
            status = 0;
            return answer;
        } catch (Refused r) {
            if (r.answer <= -1000011) {
                status = -1000010 - r.answer;
            }
            return r.answer;
        }
    }

    private Sheet there(int sheet) {
        find(NULL, sheets[sheet] == null);
        return sheets[sheet];
    }

    private static void place(Sheet s, long from, long n) {
        find(PLACE, from < 0 || n < 0 || from + n > s.items().length);
    }

    private static boolean isSheet(int sheet) {
        return 0 <= sheet && sheet <= 7;
    }

    private boolean isEye(int eye) {
        return 0 <= eye && eye < eyes.size();
    }

    private boolean isLinear(int eye) {
        return isEye(eye) && !eyes.get(eye).isChoice();
    }

    private boolean isChoice(int eye) {
        return isEye(eye) && eyes.get(eye).isChoice();
    }

    private boolean isColumn(int column) {
        return 0 <= column && column < columns();
    }

    private int[] restsOf(Sheet s, int from, int n) {
        int[] rests = new int[n];
        for (int k = 0; k < n; k++) {
            rests[k] = s.items()[from + k];
            bad(rests[k] < 0 || rests[k] > prime - 1);
        }
        return rests;
    }

    // ---- sheets

    int sheet(int sheet, int lane, int n) {
        return withStatus(() -> {
            bad(!isSheet(sheet) || lane < 0 || lane > 2 || n > 40);
            find(SIZE, n < 0);
            sheets[sheet] = new Sheet(lane, new int[n]);
            return n;
        });
    }

    int set(int sheet, int i, int v) {
        return withStatus(() -> {
            bad(!isSheet(sheet));
            Sheet s = there(sheet);
            place(s, i, 1);
            int bits = 8 << s.lane();
            s.items()[i] = v << (32 - bits) >> (32 - bits);
            return s.items()[i];
        });
    }

    int copy(int a, int i, int b, int j, int n) {
        return withStatus(() -> {
            bad(!isSheet(a) || !isSheet(b));
            Sheet from = there(a);
            Sheet to = there(b);
            find(STORE, from.lane() != to.lane());
            place(from, i, n);
            place(to, j, n);
            int[] ahead = from.items().clone();
            for (int k = 0; k < n; k++) {
                to.items()[j + k] = ahead[i + k];
            }
            return n;
        });
    }

    int drop(int sheet) {
        return withStatus(() -> {
            bad(!isSheet(sheet));
            int had = there(sheet).items().length;
            sheets[sheet] = null;
            return had;
        });
    }

    // ---- texts

    int feed(long w, int n) {
        return plain(() -> {
            bad(n < 1 || n > 8);
            full(tape.size() + n > 500);
            for (int k = n - 1; k >= 0; k--) {
                tape.add((int) (w >>> 8 * k & 255));
            }
            return tape.size();
        });
    }

    int read() {
        List<Eye> newEyes = new ArrayList<>(eyes);
        List<Tie> newTies = new ArrayList<>(ties);
        List<int[]> newBars = new ArrayList<>(bars);
        List<Token> tokens = tokens();
        tape.clear();
        try {
            while (tokens.get(0).type() != 'E') {
                sentence(tokens, newEyes, newTies, newBars);
            }
        } catch (Faulty f) {
            fault = f.fault;
            return -1000100 - f.place;
        }
        eyes = newEyes;
        ties = newTies;
        bars = newBars;
        return eyes.size();
    }

    /** N a NAME, F figures, S a SIGN, X none, E the end. */
    private List<Token> tokens() {
        List<Token> all = new ArrayList<>();
        int at = 0;
        while (at < tape.size()) {
            char c = (char) (int) tape.get(at);
            int from = at++;
            if (c == 32 || c == 10) {
                continue;
            }
            char type = typeOf(c);
            while ((type == 'N' || type == 'F') && at < tape.size() && typeOf((char) (int) tape.get(at)) == type) {
                at++;
            }
            StringBuilder text = new StringBuilder();
            for (int k = from; k < at; k++) {
                text.append((char) (int) tape.get(k));
            }
            all.add(new Token(type == 'F' && at - from > 3 ? 'X' : type, text.toString(), from));
        }
        all.add(new Token('E', "", tape.size()));
        return all;
    }

    private static char typeOf(char c) {
        return "abcdefghijklmnopqrstuvwxyz".indexOf(c) >= 0 ? 'N' : "0123456789".indexOf(c) >= 0 ? 'F'
            : c == ';' || c == ',' ? 'S' : 'X';
    }

    private static Token next(List<Token> tokens, boolean canStand) throws Faulty {
        if (!canStand) {
            throw new Faulty(1, tokens.get(0).place());
        }
        return tokens.remove(0);
    }

    private static void text(List<Token> tokens, String due) throws Faulty {
        next(tokens, tokens.get(0).text().equals(due));
    }

    /** One of some numbers: BAD for others is FAULT 2. */
    private static int number(List<Token> tokens, List<Integer> fine) throws Faulty {
        Token token = next(tokens, tokens.get(0).type() == 'F');
        int value = Integer.parseInt(token.text());
        if (!fine.contains(value)) {
            throw new Faulty(2, token.place());
        }
        return value;
    }

    private static List<Integer> from(int least, int most) {
        List<Integer> all = new ArrayList<>();
        for (int k = least; k <= most; k++) {
            all.add(k);
        }
        return all;
    }

    private static List<Integer> numbersOf(List<Eye> eyes, boolean choices, int without) {
        List<Integer> all = new ArrayList<>();
        for (int k = 0; k < eyes.size(); k++) {
            if (eyes.get(k).isChoice() == choices && k != without) {
                all.add(k);
            }
        }
        return all;
    }

    private void sentence(List<Token> tokens, List<Eye> newEyes, List<Tie> newTies, List<int[]> newBars) throws Faulty {
        int place = tokens.get(0).place();
        String word = next(tokens, List.of("eye", "tie", "bar").contains(tokens.get(0).text())).text();
        List<?> what = word.equals("eye") ? newEyes : word.equals("tie") ? newTies : newBars;
        int room = word.equals("eye") ? 8 : word.equals("tie") ? 10 : 30;
        if (what.size() == room) {
            throw new Faulty(3, place);
        }
        if (word.equals("eye")) {
            Eye one = new Eye();
            one.sort = next(tokens, SORTS.contains(tokens.get(0).text())).text();
            one.size = number(tokens, from(1, one.isChoice() ? 4 : 3));
            one.set = from(0, one.size - 1);
            newEyes.add(one);
        } else if (word.equals("tie")) {
            int a = number(tokens, numbersOf(newEyes, false, -1));
            int b = number(tokens, numbersOf(newEyes, false, a));
            int r = number(tokens, from(1, 3));
            text(tokens, "by");
            int[][] first = table(tokens, r, newEyes.get(a).size);
            text(tokens, "and");
            newTies.add(new Tie(a, b, first, table(tokens, r, newEyes.get(b).size)));
        } else {
            int a = number(tokens, numbersOf(newEyes, true, -1));
            int v = number(tokens, from(0, newEyes.get(a).size - 1));
            int b = number(tokens, numbersOf(newEyes, true, a));
            newBars.add(new int[] {a, v, b, number(tokens, from(0, newEyes.get(b).size - 1))});
        }
        text(tokens, ";");
    }

    private int[][] table(List<Token> tokens, int rows, int size) throws Faulty {
        int[][] table = new int[rows][size];
        for (int row = 0; row < rows; row++) {
            if (row != 0) {
                text(tokens, ",");
            }
            for (int k = 0; k < size; k++) {
                table[row][k] = number(tokens, from(0, prime - 1));
            }
        }
        return table;
    }

    int fault() {
        return fault;
    }

    int eye(int eye, int what) {
        return plain(() -> {
            bad(!isEye(eye) || what < 0 || what > 5);
            Eye one = eyes.get(eye);
            int[] answers = {SORTS.indexOf(one.sort), one.size, one.isChoice() ? NONE : columnOf(eye),
                one.reading == null ? 0 : 1, tiesOf(eye), one.isChoice() ? bits(one.set) : NONE};
            return answers[what];
        });
    }

    private static int bits(List<Integer> set) {
        int sum = 0;
        for (int k : set) {
            sum += 1 << k;
        }
        return sum;
    }

    private int columnOf(int eye) {
        int sum = 0;
        for (int k = 0; k < eye; k++) {
            sum += eyes.get(k).isChoice() ? 0 : eyes.get(k).size;
        }
        return sum;
    }

    private int columns() {
        return columnOf(eyes.size());
    }

    private int tiesOf(int eye) {
        int sum = 0;
        for (Tie t : ties) {
            sum += t.a() == eye || t.b() == eye ? 1 : 0;
        }
        return sum;
    }

    // ---- what agrees: a line is a number at each COLUMN, what it wants, and what it is made of

    private static final class Line {
        final int[] at;
        int want = 0;
        int[] made = new int[0];

        Line(int columns) {
            at = new int[columns];
        }
    }

    private List<Line> lines(int withoutTie) {
        List<Line> all = new ArrayList<>();
        for (int t = 0; t < ties.size(); t++) {
            Tie tie = ties.get(t);
            for (int row = 0; row < tie.tableOfA().length && t != withoutTie; row++) {
                Line line = new Line(columns());
                for (int k = 0; k < eyes.get(tie.a()).size; k++) {
                    line.at[columnOf(tie.a()) + k] += tie.tableOfA()[row][k];
                }
                for (int k = 0; k < eyes.get(tie.b()).size; k++) {
                    int column = columnOf(tie.b()) + k;
                    line.at[column] = Math.floorMod(line.at[column] - tie.tableOfB()[row][k], prime);
                }
                all.add(line);
            }
        }
        return all;
    }

    /** The LEADER of each COLUMN, or null; the lines are changed. */
    private Line[] inSteps(List<Line> lines) {
        Line[] leaders = new Line[columns()];
        List<Line> noLeaders = new ArrayList<>(lines);
        for (int column = 0; column < columns(); column++) {
            for (Line line : noLeaders) {
                if (line.at[column] != 0) {
                    leaders[column] = line;
                    break;
                }
            }
            Line leader = leaders[column];
            if (leader == null) {
                continue;
            }
            noLeaders.remove(leader);
            int times = 1;
            while (times * leader.at[column] % prime != 1) {
                times++;
            }
            takeOff(leader, leader, 1 - times);
            for (Line other : lines) {
                if (other != leader) {
                    takeOff(other, leader, other.at[column]);
                }
            }
        }
        return leaders;
    }

    private void takeOff(Line line, Line other, int often) {
        for (int k = 0; k < line.at.length; k++) {
            line.at[k] = Math.floorMod(line.at[k] - often * other.at[k], prime);
        }
        line.want = Math.floorMod(line.want - often * other.want, prime);
        for (int k = 0; k < line.made.length; k++) {
            line.made[k] = Math.floorMod(line.made[k] - often * other.made[k], prime);
        }
    }

    private List<Integer> freeColumns(Line[] leaders) {
        List<Integer> free = new ArrayList<>();
        for (int column = 0; column < leaders.length; column++) {
            if (leaders[column] == null) {
                free.add(column);
            }
        }
        return free;
    }

    private int free(int withoutTie) {
        return freeColumns(inSteps(lines(withoutTie))).size();
    }

    /** Some line is 0 at all COLUMNS and wants another number: the first such one, or null. */
    private static Line impossible(List<Line> inSteps) {
        for (Line line : inSteps) {
            boolean nought = true;
            for (int number : line.at) {
                nought &= number == 0;
            }
            if (nought && line.want != 0) {
                return line;
            }
        }
        return null;
    }

    private List<Line> linesAndReadings(int withoutEyes) {
        List<Line> all = lines(-1);
        for (int eye = 0; eye < eyes.size(); eye++) {
            int[] reading = eyes.get(eye).reading;
            for (int k = 0; reading != null && (withoutEyes >> eye & 1) == 0 && k < reading.length; k++) {
                Line line = new Line(columns());
                line.at[columnOf(eye) + k] = 1;
                line.want = reading[k];
                all.add(line);
            }
        }
        return all;
    }

    private boolean fit(int withoutEyes) {
        List<Line> all = linesAndReadings(withoutEyes);
        inSteps(all);
        return impossible(all) == null;
    }

    int all(int what) {
        return plain(() -> {
            bad(what < 0 || what > 4);
            int lines = lines(-1).size();
            int leaders = columns() - free(-1);
            return new int[] {free(-1), columns(), lines, leaders, lines - leaders}[what];
        });
    }

    int basis(int k, int column) {
        return plain(() -> {
            bad(!isColumn(column) || k < 0);
            Line[] leaders = inSteps(lines(-1));
            List<Integer> free = freeColumns(leaders);
            if (k >= free.size()) {
                return NONE;
            }
            if (leaders[column] == null) {
                return free.get(k) == column ? 1 : 0;
            }
            return Math.floorMod(-leaders[column].at[free.get(k)], prime);
        });
    }

    int reading(int eye, int sheet, int i) {
        return withStatus(() -> {
            bad(!isLinear(eye) || !isSheet(sheet));
            Sheet s = there(sheet);
            place(s, i, eyes.get(eye).size);
            eyes.get(eye).reading = restsOf(s, i, eyes.get(eye).size);
            return 1;
        });
    }

    int unread(int eye) {
        return plain(() -> {
            bad(!isLinear(eye));
            int had = eyes.get(eye).reading == null ? 0 : 1;
            eyes.get(eye).reading = null;
            return had;
        });
    }

    int fill(int column) {
        return plain(() -> {
            bad(column != -1 && !isColumn(column));
            if (column == -1) {
                return fit(0) ? 1 : 0;
            }
            Line[] leaders = inSteps(linesAndReadings(0));
            return !fit(0) ? NONE : leaders[column] == null ? 0 : leaders[column].want;
        });
    }

    int fixed(int column) {
        return plain(() -> {
            bad(!isColumn(column));
            Line[] leaders = inSteps(linesAndReadings(0));
            if (!fit(0) || leaders[column] == null) {
                return NONE;
            }
            for (int free : freeColumns(leaders)) {
                if (leaders[column].at[free] != 0) {
                    return NONE;
                }
            }
            return leaders[column].want;
        });
    }

    int fewest() {
        int with = 0;
        for (int eye = 0; eye < eyes.size(); eye++) {
            with += eyes.get(eye).reading != null ? 1 << eye : 0;
        }
        for (int count = 0; count <= 8; count++) {
            for (int set = 0; set < 256; set++) {
                if (Integer.bitCount(set) == count && (set & ~with) == 0 && fit(set)) {
                    return set;
                }
            }
        }
        throw new IllegalStateException("without READINGS all FIT");
    }

    int met(int sheet, int i, int k) {
        return withStatus(() -> {
            List<Line> lines = lines(-1);
            bad(!isSheet(sheet) || k < -1 || k > lines.size() - 1);
            Sheet s = there(sheet);
            place(s, i, lines.size());
            int[] asks = restsOf(s, i, lines.size());
            for (int line = 0; line < asks.length; line++) {
                lines.get(line).want = asks[line];
                lines.get(line).made = new int[asks.length];
                lines.get(line).made[line] = 1;
            }
            inSteps(lines);
            Line proof = impossible(lines);
            return k == -1 ? (proof == null ? 1 : 0) : proof == null ? NONE : proof.made[k];
        });
    }

    int cost(int tie) {
        return plain(() -> {
            bad(tie < 0 || tie >= ties.size());
            return free(tie) - free(-1);
        });
    }

    // ---- hearsay

    int hear(int to, int from, int tie) {
        return plain(() -> {
            bad(!isLinear(to) || !isLinear(from) || tie < 0 || tie >= ties.size());
            Tie by = ties.get(tie);
            bad(by.a() != from && by.b() != from || by.tableOfA().length != eyes.get(to).size);
            full(rules.size() == 16);
            rules.add(new Rule(to, from, tie));
            return rules.size();
        });
    }

    int now(int eye, int k, int v) {
        return plain(() -> {
            bad(!isLinear(eye) || k < 0 || k >= eyes.get(eye).size || v < 0 || v > prime - 1);
            int was = eyes.get(eye).now[k];
            eyes.get(eye).now[k] = v;
            return was;
        });
    }

    private List<List<Integer>> row() {
        List<List<Integer>> row = new ArrayList<>();
        for (Eye one : eyes) {
            row.add(new ArrayList<>());
            for (int k = 0; !one.isChoice() && k < one.size; k++) {
                row.get(row.size() - 1).add(one.now[k]);
            }
        }
        return row;
    }

    private List<List<Integer>> behindATick(List<List<Integer>> row) {
        List<List<Integer>> later = new ArrayList<>(row);
        for (Rule rule : rules) {
            if (eyes.get(rule.to()).sort.equals("held")) {
                continue;
            }
            Tie tie = ties.get(rule.tie());
            List<Integer> numbers = new ArrayList<>();
            for (int[] line : tie.a() == rule.from() ? tie.tableOfA() : tie.tableOfB()) {
                int sum = 0;
                for (int k = 0; k < line.length; k++) {
                    sum += line[k] * row.get(rule.from()).get(k);
                }
                numbers.add(sum % prime);
            }
            later.set(rule.to(), numbers);
        }
        return later;
    }

    int tick(int n) {
        return plain(() -> {
            bad(n < 1 || n > 100);
            List<List<Integer>> row = row();
            for (int k = 0; k < n; k++) {
                row = behindATick(row);
            }
            int notNought = 0;
            for (int eye = 0; eye < eyes.size(); eye++) {
                for (int k = 0; k < row.get(eye).size(); k++) {
                    eyes.get(eye).now[k] = row.get(eye).get(k);
                    notNought += row.get(eye).get(k) == 0 ? 0 : 1;
                }
            }
            return notNought;
        });
    }

    int says(int eye, int k) {
        return plain(() -> {
            bad(!isLinear(eye) || k < 0 || k >= eyes.get(eye).size);
            return eyes.get(eye).now[k];
        });
    }

    int settles(int what) {
        return plain(() -> {
            bad(what < 0 || what > 1);
            List<List<List<Integer>>> rows = new ArrayList<>();
            rows.add(row());
            for (int ticks = 1; ticks <= 300; ticks++) {
                List<List<Integer>> row = behindATick(rows.get(ticks - 1));
                int behind = rows.indexOf(row);
                if (behind >= 0) {
                    return what == 0 ? behind : ticks - behind;
                }
                rows.add(row);
            }
            return NONE;
        });
    }

    // ---- choices

    int choose(int eye, int set) {
        return plain(() -> {
            bad(!isChoice(eye) || set < 1 || set >= 1 << eyes.get(eye).size);
            int was = bits(eyes.get(eye).set);
            eyes.get(eye).set = new ArrayList<>();
            for (int value = 0; value < 4; value++) {
                if ((set >> value & 1) == 1) {
                    eyes.get(eye).set.add(value);
                }
            }
            return was;
        });
    }

    private boolean barred(int a, int v, int b, int w) {
        for (int[] bar : bars) {
            if (bar[0] == a && bar[1] == v && bar[2] == b && bar[3] == w
                || bar[0] == b && bar[1] == w && bar[2] == a && bar[3] == v) {
                return true;
            }
        }
        return false;
    }

    private boolean goes(int choice, int value) {
        for (int other : numbersOf(eyes, true, choice)) {
            boolean none = true;
            for (int w : eyes.get(other).set) {
                none &= barred(choice, value, other, w);
            }
            if (none) {
                return true;
            }
        }
        return false;
    }

    int narrow() {
        int went = 0;
        for (int before = -1; before != went; ) {
            before = went;
            for (int choice : numbersOf(eyes, true, -1)) {
                for (int value : new ArrayList<>(eyes.get(choice).set)) {
                    if (goes(choice, value)) {
                        eyes.get(choice).set.remove((Integer) value);
                        went++;
                    }
                }
            }
        }
        return went;
    }

    /** How many ways go on from values for the first CHOICES; the first way is left in first. */
    private int ways(List<Integer> choices, List<Integer> values, List<Integer> first) {
        if (values.size() == choices.size()) {
            if (first.isEmpty()) {
                first.addAll(values);
            }
            return 1;
        }
        int choice = choices.get(values.size());
        int sum = 0;
        for (int value : eyes.get(choice).set) {
            boolean fine = true;
            for (int k = 0; k < values.size(); k++) {
                fine &= !barred(choices.get(k), values.get(k), choice, value);
            }
            if (fine) {
                values.add(value);
                sum += ways(choices, values, first);
                values.remove(values.size() - 1);
            }
        }
        return sum;
    }

    int fills(int eye) {
        return plain(() -> {
            bad(eye != -1 && !isChoice(eye));
            List<Integer> choices = numbersOf(eyes, true, -1);
            List<Integer> first = new ArrayList<>();
            int ways = ways(choices, new ArrayList<>(), first);
            return eye == -1 ? ways : ways == 0 ? NONE : first.get(choices.indexOf(eye));
        });
    }

    // ---- asked

    int kind(int eye) {
        return plain(() -> {
            bad(!isEye(eye));
            return SORTS.indexOf(eyes.get(eye).sort) + 1;
        });
    }

    int as(int eye, int kind) {
        return withStatus(() -> {
            bad(!isEye(eye) || kind < 0 || kind > 4);
            String sort = eyes.get(eye).sort;
            boolean[] is = {true, !sort.equals("choice"), sort.equals("mod"), sort.equals("held"), sort.equals("choice")};
            find(KIND, !is[kind]);
            return eyes.get(eye).size;
        });
    }

    int ask(int eye, int what) {
        return plain(() -> {
            bad(!isEye(eye) || what < 0 || what > 1);
            trace.clear();
            return what == 0 ? size(eye) : mark(eye);
        });
    }

    private int size(int eye) {
        switch (eyes.get(eye).sort) {
            case "view": return body11(eye);
            case "mod": {
                trace.add(12);
                return body11(eye) * prime;
            }
            case "held": {
                trace.add(13);
                int given = body11(eye);
                return given - mark(eye);
            }
            default: {
                trace.add(14);
                return body10(eye) + eyes.get(eye).set.size();
            }
        }
    }

    private int body10(int eye) {
        trace.add(10);
        return eyes.get(eye).size;
    }

    private int body11(int eye) {
        trace.add(11);
        return body10(eye) + tiesOf(eye);
    }

    private int mark(int eye) {
        switch (eyes.get(eye).sort) {
            case "mod": {
                trace.add(22);
                int given = body21(eye);
                return given + size(eye);
            }
            case "choice": {
                trace.add(23);
                return body20(eye) + 1000;
            }
            default: return body21(eye);
        }
    }

    private int body20(int eye) {
        trace.add(20);
        return eye;
    }

    private int body21(int eye) {
        trace.add(21);
        return body20(eye) + (eyes.get(eye).reading == null ? 0 : 100);
    }

    int trace(int i) {
        return i < 0 || i >= trace.size() || i >= 16 ? NONE : trace.get(i);
    }

    int count(int what) {
        return plain(() -> {
            bad(what < 0 || what > 8);
            int there = 0;
            for (Sheet s : sheets) {
                there += s == null ? 0 : 1;
            }
            int readings = 0;
            for (Eye one : eyes) {
                readings += one.reading == null ? 0 : 1;
            }
            return new int[] {there, eyes.size(), ties.size(), bars.size(), readings, rules.size(),
                numbersOf(eyes, true, -1).size(), tape.size(), prime}[what];
        });
    }

    int status() {
        return status;
    }
}
