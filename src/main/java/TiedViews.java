import java.util.Arrays;

/**
 * Views that must agree: eyes with numbers by rests of a prime, tied two by two by tables.
 * README.md tells how to use it; the document's promises are tested under src/test/java.
 */
public final class TiedViews {
    public static final int NONE = -1000000, BAD = -1000001, STATE = -1000002, FULL = -1000003;

    private static final int FINDING_BASE = -1000010;
    private static final int NULL_FINDING = 1;
    private static final int PLACE_FINDING = 2;
    private static final int KIND_FINDING = 3;
    private static final int SIZE_FINDING = 4;
    private static final int STORE_FINDING = 5;
    private static final int FAULT_BASE = -1000100;

    private static final int MOST_SHEETS = 8;
    private static final int MOST_ITEMS = 40;
    private static final int MOST_BYTES = 500;
    private static final int MOST_EYES = 8;
    private static final int MOST_TIES = 10;
    private static final int MOST_BARS = 30;
    private static final int MOST_RULES = 16;
    private static final int MOST_NUMBERS = 3;
    private static final int MOST_VALUES = 4;
    private static final int MOST_COLUMNS = MOST_EYES * MOST_NUMBERS;
    private static final int MOST_LINES = MOST_TIES * MOST_NUMBERS;
    private static final int MOST_TICKS_A_CALL = 100;

    private static final int LANE_BYTES = 0;
    private static final int LANE_SHORTS = 1;
    private static final int LANE_INTS = 2;

    private static final int SORT_VIEW = 0;
    private static final int SORT_MOD = 1;
    private static final int SORT_HELD = 2;
    private static final int SORT_CHOICE = 3;

    private static final int LAST_KIND = 4;

    private final int prime;
    private final Sheet[] sheets = new Sheet[MOST_SHEETS];
    private final Told told;
    private final Reader reader;
    private final Agreement agreement;
    private final Dropping dropping;
    private final Hearsay hearsay;
    private final Choices choices;
    private final Bodies bodies;
    private int latestFinding;

    public TiedViews(int prime) {
        this.prime = primeOr7(prime);
        for (int i = 0; i < MOST_SHEETS; i++) {
            sheets[i] = new Sheet();
        }
        told = new Told(this.prime);
        reader = new Reader(told);
        agreement = new Agreement(told);
        dropping = new Dropping(told, agreement);
        hearsay = new Hearsay(told);
        choices = new Choices(told);
        bodies = new Bodies(told);
    }

    // ---- sheets

    public int sheet(int sheet, int lane, int n) {
        Sheet paper = sheetAt(sheet);
        if (paper == null || lane < LANE_BYTES || lane > LANE_INTS || n > MOST_ITEMS) {
            return BAD;
        }
        if (n < 0) {
            return found(SIZE_FINDING);
        }
        paper.begin(lane, n);
        return passed(n);
    }

    public int set(int sheet, int i, int v) {
        Sheet paper = sheetAt(sheet);
        if (paper == null) {
            return BAD;
        }
        if (paper.isMissing()) {
            return found(NULL_FINDING);
        }
        if (!paper.reaches(i, 1)) {
            return found(PLACE_FINDING);
        }
        return passed(paper.put(i, v));
    }

    public int copy(int a, int i, int b, int j, int n) {
        Sheet from = sheetAt(a);
        Sheet to = sheetAt(b);
        if (from == null || to == null) {
            return BAD;
        }
        if (from.isMissing() || to.isMissing()) {
            return found(NULL_FINDING);
        }
        if (from.lane != to.lane) {
            return found(STORE_FINDING);
        }
        if (!from.reaches(i, n) || !to.reaches(j, n)) {
            return found(PLACE_FINDING);
        }
        System.arraycopy(from.items, i, to.items, j, n);
        return passed(n);
    }

    public int drop(int sheet) {
        Sheet paper = sheetAt(sheet);
        if (paper == null) {
            return BAD;
        }
        if (paper.isMissing()) {
            return found(NULL_FINDING);
        }
        int had = paper.length;
        paper.begin(Sheet.MISSING, 0);
        return passed(had);
    }

    // ---- texts

    public int feed(long w, int n) {
        if (n < 1 || n > 8) {
            return BAD;
        }
        if (!reader.hasRoomFor(n)) {
            return FULL;
        }
        return reader.append(w, n);
    }

    public int read() {
        int place = reader.takeIn();
        if (place != Reader.NO_FAULT) {
            return FAULT_BASE - place;
        }
        agreement.learnLines();
        dropping.forget();
        choices.learnBars();
        return told.eyeCount;
    }

    public int fault() {
        return reader.latestFault;
    }

    public int eye(int eye, int what) {
        Eye one = told.eyeAt(eye);
        if (one == null) {
            return BAD;
        }
        switch (what) {
            case 0:
                return one.sort;
            case 1:
                return one.size;
            case 2:
                return one.isChoice() ? NONE : one.column;
            case 3:
                return one.hasReading ? 1 : 0;
            case 4:
                return told.tiesOf(eye);
            case 5:
                return one.isChoice() ? one.choiceSet : NONE;
            default:
                return BAD;
        }
    }

    // ---- what agrees

    public int all(int what) {
        switch (what) {
            case 0:
                return agreement.freeColumns();
            case 1:
                return told.columns;
            case 2:
                return told.lines;
            case 3:
                return agreement.leaders();
            case 4:
                return told.lines - agreement.leaders();
            default:
                return BAD;
        }
    }

    public int basis(int k, int column) {
        if (k < 0 || !told.isColumn(column)) {
            return BAD;
        }
        return k < agreement.freeColumns() ? agreement.basisNumber(k, column) : NONE;
    }

    public int reading(int eye, int sheet, int i) {
        Eye one = told.linearAt(eye);
        Sheet paper = sheetAt(sheet);
        if (one == null || paper == null) {
            return BAD;
        }
        if (paper.isMissing()) {
            return found(NULL_FINDING);
        }
        if (!paper.reaches(i, one.size)) {
            return found(PLACE_FINDING);
        }
        if (!paper.holdsRests(i, one.size, prime)) {
            return BAD;
        }
        one.takeReading(paper, i);
        forgetReadings();
        return passed(1);
    }

    public int unread(int eye) {
        Eye one = told.linearAt(eye);
        if (one == null) {
            return BAD;
        }
        if (!one.hasReading) {
            return 0;
        }
        one.hasReading = false;
        forgetReadings();
        return 1;
    }

    public int fill(int column) {
        if (column == -1) {
            return agreement.readingsFit() ? 1 : 0;
        }
        if (!told.isColumn(column)) {
            return BAD;
        }
        return agreement.readingsFit() ? agreement.fillNumber(column) : NONE;
    }

    public int fixed(int column) {
        if (!told.isColumn(column)) {
            return BAD;
        }
        return agreement.readingsFit() && agreement.isFixed(column) ? agreement.fillNumber(column) : NONE;
    }

    public int fewest() {
        return dropping.leastSet();
    }

    public int met(int sheet, int i, int k) {
        Sheet paper = sheetAt(sheet);
        if (paper == null || k < -1 || k >= told.lines) {
            return BAD;
        }
        if (paper.isMissing()) {
            return found(NULL_FINDING);
        }
        if (!paper.reaches(i, told.lines)) {
            return found(PLACE_FINDING);
        }
        if (!paper.holdsRests(i, told.lines, prime)) {
            return BAD;
        }
        int proof = agreement.proofLine(paper, i);
        if (k == -1) {
            return passed(proof < 0 ? 1 : 0);
        }
        return passed(proof < 0 ? NONE : agreement.madeOf(proof, k));
    }

    public int cost(int tie) {
        return told.tieAt(tie) == null ? BAD : agreement.costOf(tie);
    }

    // ---- hearsay

    public int hear(int to, int from, int tie) {
        Eye taker = told.linearAt(to);
        Eye giver = told.linearAt(from);
        Tie by = told.tieAt(tie);
        if (taker == null || giver == null || by == null) {
            return BAD;
        }
        if (!by.joins(from) || by.rows != taker.size) {
            return BAD;
        }
        return hearsay.isFull() ? FULL : hearsay.addRule(to, from, tie);
    }

    public int now(int eye, int k, int v) {
        Eye one = told.linearAt(eye);
        if (one == null || k < 0 || k >= one.size || v < 0 || v >= prime) {
            return BAD;
        }
        return hearsay.change(one.column + k, v);
    }

    public int tick(int n) {
        if (n < 1 || n > MOST_TICKS_A_CALL) {
            return BAD;
        }
        return hearsay.goOn(n);
    }

    public int says(int eye, int k) {
        Eye one = told.linearAt(eye);
        if (one == null || k < 0 || k >= one.size) {
            return BAD;
        }
        return hearsay.numberAt(one.column + k);
    }

    public int settles(int what) {
        if (what != 0 && what != 1) {
            return BAD;
        }
        if (hearsay.isSpent()) {
            return NONE;
        }
        return what == 0 ? hearsay.settledBehind : hearsay.settledLater;
    }

    // ---- choices

    public int choose(int eye, int set) {
        Eye one = told.choiceAt(eye);
        if (one == null || set < 1 || set > one.fullSet()) {
            return BAD;
        }
        int was = one.choiceSet;
        one.choiceSet = set;
        choices.forget();
        return was;
    }

    public int narrow() {
        return choices.narrowSets();
    }

    public int fills(int eye) {
        if (eye == -1) {
            return choices.ways();
        }
        if (told.choiceAt(eye) == null) {
            return BAD;
        }
        return choices.ways() == 0 ? NONE : choices.firstValue(eye);
    }

    // ---- asked

    public int kind(int eye) {
        Eye one = told.eyeAt(eye);
        return one == null ? BAD : Bodies.kindOf(one);
    }

    public int as(int eye, int kind) {
        Eye one = told.eyeAt(eye);
        if (one == null || kind < 0 || kind > LAST_KIND) {
            return BAD;
        }
        if (!Bodies.isOfKind(one, kind)) {
            return found(KIND_FINDING);
        }
        return passed(one.size);
    }

    public int ask(int eye, int what) {
        Eye one = told.eyeAt(eye);
        if (one == null || (what != Bodies.SIZE && what != Bodies.MARK)) {
            return BAD;
        }
        return bodies.answer(one, what);
    }

    public int trace(int i) {
        return bodies.traceNumber(i);
    }

    public int count(int what) {
        switch (what) {
            case 0:
                return sheetsThere();
            case 1:
                return told.eyeCount;
            case 2:
                return told.tieCount;
            case 3:
                return told.barCount;
            case 4:
                return told.readings();
            case 5:
                return hearsay.ruleCount;
            case 6:
                return told.choiceCount();
            case 7:
                return reader.length;
            case 8:
                return prime;
            default:
                return BAD;
        }
    }

    public int status() {
        return latestFinding;
    }

    // ---- helpers of the face

    private static int primeOr7(int number) {
        return number == 2 || number == 3 || number == 5 ? number : 7;
    }

    private Sheet sheetAt(int sheet) {
        return sheet < 0 || sheet >= MOST_SHEETS ? null : sheets[sheet];
    }

    private int sheetsThere() {
        int there = 0;
        for (int i = 0; i < MOST_SHEETS; i++) {
            if (!sheets[i].isMissing()) {
                there++;
            }
        }
        return there;
    }

    private int found(int finding) {
        latestFinding = finding;
        return FINDING_BASE - finding;
    }

    private int passed(int answer) {
        latestFinding = 0;
        return answer;
    }

    private void forgetReadings() {
        agreement.forgetFill();
        dropping.forget();
    }

    /** A row of numbers of one width, or the gap where one is missing. */
    private static final class Sheet {
        static final int MISSING = -1;

        int lane = MISSING;
        int length;
        final int[] items = new int[MOST_ITEMS];

        void begin(int newLane, int n) {
            lane = newLane;
            length = n;
            Arrays.fill(items, 0);
        }

        boolean isMissing() {
            return lane == MISSING;
        }

        /** Subtracts rather than adds, since from and n may be as great as an int can be. */
        boolean reaches(int from, int n) {
            return from >= 0 && n >= 0 && from <= length && n <= length - from;
        }

        int put(int i, int v) {
            if (!reaches(i, 1)) {
                return NONE;
            }
            items[i] = cut(v);
            return items[i];
        }

        private int cut(int v) {
            if (lane == LANE_BYTES) {
                return (byte) v;
            }
            return lane == LANE_SHORTS ? (short) v : v;
        }

        boolean holdsRests(int from, int n, int prime) {
            if (!reaches(from, n)) {
                return false;
            }
            for (int i = from; i < from + n; i++) {
                if (items[i] < 0 || items[i] >= prime) {
                    return false;
                }
            }
            return true;
        }
    }

    /** One eye; its column is where its numbers begin in rows, if it is no choice. */
    private static final class Eye {
        final int number;
        int sort;
        int size;
        int column;
        int choiceSet;
        boolean hasReading;
        final int[] numbers = new int[MOST_NUMBERS];

        Eye(int number) {
            this.number = number;
        }

        void begin(int newSort, int newSize, int firstColumn) {
            sort = newSort;
            size = newSize;
            column = firstColumn;
            choiceSet = fullSet();
            hasReading = false;
        }

        boolean isChoice() {
            return sort == SORT_CHOICE;
        }

        int fullSet() {
            return (1 << size) - 1;
        }

        void takeReading(Sheet paper, int from) {
            if (size > MOST_NUMBERS || !paper.reaches(from, size)) {
                return;
            }
            System.arraycopy(paper.items, from, numbers, 0, size);
            hasReading = true;
        }
    }

    /** Two eyes and what each hands over; row r of a table begins at r times MOST_NUMBERS. */
    private static final class Tie {
        int firstEye;
        int secondEye;
        int rows;
        final int[] firstTable = new int[MOST_NUMBERS * MOST_NUMBERS];
        final int[] secondTable = new int[MOST_NUMBERS * MOST_NUMBERS];

        boolean joins(int eye) {
            return eye == firstEye || eye == secondEye;
        }

        int[] tableOf(int eye) {
            return eye == firstEye ? firstTable : secondTable;
        }
    }

    /** All that texts have told. What a text tells is put behind at once and taken back at a fault. */
    private static final class Told {
        final int prime;
        final Eye[] eyes = new Eye[MOST_EYES];
        final Tie[] ties = new Tie[MOST_TIES];
        final int[] bars = new int[MOST_BARS * 4];
        int eyeCount;
        int tieCount;
        int barCount;
        int columns;
        int lines;
        private int keptEyes;
        private int keptTies;
        private int keptBars;
        private int keptColumns;
        private int keptLines;

        Told(int prime) {
            this.prime = prime;
            for (int i = 0; i < MOST_EYES; i++) {
                eyes[i] = new Eye(i);
            }
            for (int i = 0; i < MOST_TIES; i++) {
                ties[i] = new Tie();
            }
        }

        void keep() {
            keptEyes = eyeCount;
            keptTies = tieCount;
            keptBars = barCount;
            keptColumns = columns;
            keptLines = lines;
        }

        void goBack() {
            eyeCount = keptEyes;
            tieCount = keptTies;
            barCount = keptBars;
            columns = keptColumns;
            lines = keptLines;
        }

        Eye eyeAt(int eye) {
            return eye < 0 || eye >= eyeCount ? null : eyes[eye];
        }

        Eye linearAt(int eye) {
            Eye one = eyeAt(eye);
            return one == null || one.isChoice() ? null : one;
        }

        Eye choiceAt(int eye) {
            Eye one = eyeAt(eye);
            return one == null || !one.isChoice() ? null : one;
        }

        Tie tieAt(int tie) {
            return tie < 0 || tie >= tieCount ? null : ties[tie];
        }

        boolean isColumn(int column) {
            return column >= 0 && column < columns;
        }

        int tiesOf(int eye) {
            int in = 0;
            for (int i = 0; i < tieCount; i++) {
                if (ties[i].joins(eye)) {
                    in++;
                }
            }
            return in;
        }

        int readings() {
            int with = 0;
            for (int i = 0; i < eyeCount; i++) {
                if (eyes[i].hasReading) {
                    with++;
                }
            }
            return with;
        }

        int choiceCount() {
            int found = 0;
            for (int i = 0; i < eyeCount; i++) {
                if (eyes[i].isChoice()) {
                    found++;
                }
            }
            return found;
        }

        void addEye(int sort, int size) {
            if (eyeCount >= MOST_EYES) {
                return;
            }
            eyes[eyeCount].begin(sort, size, columns);
            eyeCount++;
            if (sort != SORT_CHOICE) {
                columns += size;
            }
        }

        /** The tie that a text may write into before it is told; null: there is no room. */
        Tie nextTie() {
            return tieCount >= MOST_TIES ? null : ties[tieCount];
        }

        void addNextTie() {
            if (tieCount < MOST_TIES) {
                lines += ties[tieCount].rows;
                tieCount++;
            }
        }

        void addBar(int choice, int value, int otherChoice, int otherValue) {
            if (barCount >= MOST_BARS) {
                return;
            }
            int at = barCount * 4;
            bars[at] = choice;
            bars[at + 1] = value;
            bars[at + 2] = otherChoice;
            bars[at + 3] = otherValue;
            barCount++;
        }

        void writeLine(Tie tie, int row, int[] line) {
            Eye first = linearAt(tie.firstEye);
            Eye second = linearAt(tie.secondEye);
            if (first == null || second == null || row < 0 || row >= MOST_NUMBERS) {
                return;
            }
            int from = row * MOST_NUMBERS;
            for (int k = 0; k < first.size; k++) {
                line[first.column + k] = tie.firstTable[from + k];
            }
            for (int k = 0; k < second.size; k++) {
                line[second.column + k] = restOf(prime - tie.secondTable[from + k], prime);
            }
        }
    }

    private static int restOf(int number, int prime) {
        return prime < 2 ? 0 : number % prime;
    }

    private static int inverseOf(int number, int prime) {
        for (int i = 1; i < prime; i++) {
            if (restOf(i * number, prime) == 1) {
                return i;
            }
        }
        return 1;
    }

    /** The tape and how it is read: each take.. looks at the token at hand and goes on to the next. */
    private static final class Reader {
        static final int NO_FAULT = -1;

        private static final int FAULT_STANDING = 1;
        private static final int FAULT_NUMBER = 2;
        private static final int FAULT_ROOM = 3;

        // A sign's token is its byte, so these stay below all signs.
        private static final int TOKEN_END = 0;
        private static final int TOKEN_NAME = 1;
        private static final int TOKEN_NUMBER = 2;
        private static final int TOKEN_NONE = 3;
        private static final int MOST_FIGURES = 3;

        private final Told told;
        private final byte[] tape = new byte[MOST_BYTES];
        int length;
        int latestFault;
        private int token;
        private int begin;
        private int behind;
        private int value;
        private int taken;

        Reader(Told told) {
            this.told = told;
        }

        boolean hasRoomFor(int n) {
            return n <= MOST_BYTES - length;
        }

        int append(long w, int n) {
            for (int i = n - 1; i >= 0 && length < MOST_BYTES; i--) {
                tape[length] = (byte) (w >> (8 * i));
                length++;
            }
            return length;
        }

        /** Empties the tape into what is told: NO_FAULT, or the place of the first fault. */
        int takeIn() {
            told.keep();
            behind = 0;
            goOn();
            boolean fine = true;
            for (int i = 0; i < MOST_BYTES && fine && token != TOKEN_END; i++) {
                fine = takeSentence();
            }
            length = 0;
            if (fine) {
                return NO_FAULT;
            }
            told.goBack();
            return begin;
        }

        private boolean fails(int fault) {
            latestFault = fault;
            return false;
        }

        private void goOn() {
            while (behind < length && (tape[behind] == ' ' || tape[behind] == '\n')) {
                behind++;
            }
            begin = behind;
            if (begin >= length) {
                token = TOKEN_END;
            } else if (passRun('a', 'z')) {
                token = TOKEN_NAME;
            } else if (passRun('0', '9')) {
                token = behind - begin > MOST_FIGURES ? TOKEN_NONE : TOKEN_NUMBER;
                value = figuresValue();
            } else {
                token = tape[begin] == ';' || tape[begin] == ',' ? tape[begin] : TOKEN_NONE;
                behind = begin + 1;
            }
        }

        /** Passes all bytes from least to most; false: there is none. */
        private boolean passRun(char least, char most) {
            while (behind < length && tape[behind] >= least && tape[behind] <= most) {
                behind++;
            }
            return behind > begin;
        }

        private int figuresValue() {
            int sum = 0;
            for (int i = begin; i < behind && i < begin + MOST_FIGURES; i++) {
                sum = sum * 10 + tape[i] - '0';
            }
            return sum;
        }

        private boolean isWord(String word) {
            if (token != TOKEN_NAME || behind - begin != word.length()) {
                return false;
            }
            for (int i = 0; i < word.length(); i++) {
                if (tape[begin + i] != word.charAt(i)) {
                    return false;
                }
            }
            return true;
        }

        private boolean takeSentence() {
            if (isWord("eye")) {
                return takeEyeSentence();
            }
            if (isWord("tie")) {
                return takeTieSentence();
            }
            return isWord("bar") ? takeBarSentence() : fails(FAULT_STANDING);
        }

        private boolean takeEyeSentence() {
            if (told.eyeCount >= MOST_EYES) {
                return fails(FAULT_ROOM);
            }
            goOn();
            if (!takeSort()) {
                return false;
            }
            int sort = taken;
            if (!takeNumber(1, sort == SORT_CHOICE ? MOST_VALUES : MOST_NUMBERS)) {
                return false;
            }
            int size = taken;
            if (!takeSign(';')) {
                return false;
            }
            told.addEye(sort, size);
            return true;
        }

        private boolean takeTieSentence() {
            Tie tie = told.nextTie();
            if (tie == null) {
                return fails(FAULT_ROOM);
            }
            goOn();
            if (!takeEyes(tie) || !takeNumber(1, MOST_NUMBERS)) {
                return false;
            }
            tie.rows = taken;
            if (!takeWord("by") || !takeTable(tie, tie.firstEye)) {
                return false;
            }
            if (!takeWord("and") || !takeTable(tie, tie.secondEye) || !takeSign(';')) {
                return false;
            }
            told.addNextTie();
            return true;
        }

        private boolean takeEyes(Tie tie) {
            if (!takeEye(false, NONE)) {
                return false;
            }
            tie.firstEye = taken;
            if (!takeEye(false, tie.firstEye)) {
                return false;
            }
            tie.secondEye = taken;
            return true;
        }

        private boolean takeTable(Tie tie, int eye) {
            Eye one = told.linearAt(eye);
            if (one == null) {
                return fails(FAULT_NUMBER);
            }
            int[] table = tie.tableOf(eye);
            for (int row = 0; row < tie.rows; row++) {
                if (row > 0 && !takeSign(',')) {
                    return false;
                }
                for (int k = 0; k < one.size; k++) {
                    if (!takeNumber(0, told.prime - 1)) {
                        return false;
                    }
                    table[row * MOST_NUMBERS + k] = taken;
                }
            }
            return true;
        }

        private boolean takeBarSentence() {
            if (told.barCount >= MOST_BARS) {
                return fails(FAULT_ROOM);
            }
            goOn();
            if (!takeEye(true, NONE)) {
                return false;
            }
            int choice = taken;
            if (!takeValueOf(choice)) {
                return false;
            }
            int chosen = taken;
            if (!takeEye(true, choice)) {
                return false;
            }
            int otherChoice = taken;
            if (!takeValueOf(otherChoice)) {
                return false;
            }
            int otherChosen = taken;
            if (!takeSign(';')) {
                return false;
            }
            told.addBar(choice, chosen, otherChoice, otherChosen);
            return true;
        }

        private boolean takeSort() {
            if (isWord("view")) {
                taken = SORT_VIEW;
            } else if (isWord("mod")) {
                taken = SORT_MOD;
            } else if (isWord("held")) {
                taken = SORT_HELD;
            } else if (isWord("choice")) {
                taken = SORT_CHOICE;
            } else {
                return fails(FAULT_STANDING);
            }
            goOn();
            return true;
        }

        private boolean takeNumber(int least, int most) {
            if (token != TOKEN_NUMBER) {
                return fails(FAULT_STANDING);
            }
            if (value < least || value > most) {
                return fails(FAULT_NUMBER);
            }
            taken = value;
            goOn();
            return true;
        }

        private boolean takeEye(boolean choice, int unlike) {
            if (token != TOKEN_NUMBER) {
                return fails(FAULT_STANDING);
            }
            Eye one = told.eyeAt(value);
            if (one == null || one.isChoice() != choice || value == unlike) {
                return fails(FAULT_NUMBER);
            }
            taken = value;
            goOn();
            return true;
        }

        private boolean takeValueOf(int choice) {
            Eye one = told.choiceAt(choice);
            return takeNumber(0, one == null ? -1 : one.size - 1);
        }

        private boolean takeWord(String word) {
            if (!isWord(word)) {
                return fails(FAULT_STANDING);
            }
            goOn();
            return true;
        }

        private boolean takeSign(char sign) {
            if (token != sign) {
                return fails(FAULT_STANDING);
            }
            goOn();
            return true;
        }
    }

    /** Lines put in steps; behind its columns a line carries extras (a want, what it is made of). */
    private static final class Steps {
        private final int prime;
        private final int mostExtras;
        private final int[][] rows;
        private final int[] leaderOf = new int[MOST_COLUMNS];
        private final int[] freeAt = new int[MOST_COLUMNS];
        private final int[] leads;
        int lineCount;
        int columnCount;
        int leaderCount;
        private int freeCount;
        private int width;

        Steps(int prime, int mostLines, int mostExtras) {
            this.prime = prime;
            this.mostExtras = mostExtras;
            rows = new int[mostLines][MOST_COLUMNS + mostExtras];
            leads = new int[mostLines];
        }

        void begin(int columns, int extras) {
            columnCount = Math.min(columns, MOST_COLUMNS);
            width = columnCount + Math.min(extras, mostExtras);
            lineCount = 0;
            leaderCount = 0;
            freeCount = 0;
        }

        /** A new line of noughts to write into; null: there is no room. */
        int[] addLine() {
            if (lineCount >= rows.length) {
                return null;
            }
            int[] row = rows[lineCount];
            Arrays.fill(row, 0);
            leads[lineCount] = -1;
            lineCount++;
            return row;
        }

        void putInSteps() {
            for (int column = 0; column < columnCount; column++) {
                int line = leastLineAt(column);
                leaderOf[column] = line;
                if (line >= 0) {
                    leads[line] = column;
                    leaderCount++;
                    makeOneAt(line, column);
                    takeOffOthers(line, column);
                } else {
                    freeAt[freeCount] = column;
                    freeCount++;
                }
            }
        }

        private int leastLineAt(int column) {
            for (int line = 0; line < lineCount; line++) {
                if (leads[line] < 0 && rows[line][column] != 0) {
                    return line;
                }
            }
            return -1;
        }

        private void makeOneAt(int line, int column) {
            int[] row = rows[line];
            if (row[column] == 1) {
                return;
            }
            int times = inverseOf(row[column], prime);
            for (int i = 0; i < width; i++) {
                row[i] = restOf(row[i] * times, prime);
            }
        }

        private void takeOffOthers(int leader, int column) {
            for (int line = 0; line < lineCount; line++) {
                int often = rows[line][column];
                if (line != leader && often != 0) {
                    addTimes(rows[line], rows[leader], prime - often, width, prime);
                }
            }
        }

        /** The line that leads a column; -1: the column is free. */
        int leaderAt(int column) {
            return column < 0 || column >= columnCount ? -1 : leaderOf[column];
        }

        boolean isLeader(int line) {
            return line >= 0 && line < lineCount && leads[line] >= 0;
        }

        int numberAt(int line, int column) {
            return line < 0 || line >= lineCount || column < 0 || column >= width ? 0 : rows[line][column];
        }

        int extraAt(int line, int extra) {
            return numberAt(line, columnCount + extra);
        }

        /** The k-th free column; -1: there are not so many. */
        int freeColumn(int k) {
            return k < 0 || k >= freeCount ? -1 : freeAt[k];
        }
    }

    private static void addTimes(int[] row, int[] other, int times, int width, int prime) {
        if (prime < 2) {
            return;
        }
        for (int i = 0; i < width; i++) {
            row[i] = (row[i] + times * other[i]) % prime;
        }
    }

    /** What the ties let all hold at once. Lines change only when a text is read, readings often. */
    private static final class Agreement {
        private final Told told;
        private final Steps lines;
        private final Steps wanting;
        private boolean fillKnown;
        private boolean fit;

        Agreement(Told told) {
            this.told = told;
            lines = new Steps(told.prime, MOST_LINES, MOST_LINES);
            wanting = new Steps(told.prime, MOST_LINES + MOST_COLUMNS, 1);
        }

        void forgetFill() {
            fillKnown = false;
        }

        int leaders() {
            return lines.leaderCount;
        }

        int freeColumns() {
            return told.columns - leaders();
        }

        int basisNumber(int k, int column) {
            int free = lines.freeColumn(k);
            int leader = lines.leaderAt(column);
            if (leader < 0) {
                return column == free ? 1 : 0;
            }
            return restOf(told.prime - lines.numberAt(leader, free), told.prime);
        }

        /** Each line is made of itself once, so that one set of steps serves all asks. */
        void learnLines() {
            lines.begin(told.columns, told.lines);
            addLines(lines, -1, true);
            lines.putInSteps();
            fillKnown = false;
        }

        private void addLines(Steps steps, int exceptTie, boolean madeOfItself) {
            for (int i = 0; i < told.tieCount; i++) {
                Tie tie = told.ties[i];
                for (int row = 0; row < tie.rows && i != exceptTie; row++) {
                    int number = steps.lineCount;
                    int[] line = steps.addLine();
                    if (line == null) {
                        return;
                    }
                    told.writeLine(tie, row, line);
                    if (madeOfItself) {
                        line[told.columns + number] = 1;
                    }
                }
            }
        }

        boolean readingsFit() {
            learnFill();
            return fit;
        }

        int fillNumber(int column) {
            learnFill();
            return wanting.extraAt(wanting.leaderAt(column), 0);
        }

        boolean isFixed(int column) {
            learnFill();
            int leader = wanting.leaderAt(column);
            if (leader < 0) {
                return false;
            }
            for (int i = 0; i < told.columns; i++) {
                if (wanting.leaderAt(i) < 0 && wanting.numberAt(leader, i) != 0) {
                    return false;
                }
            }
            return true;
        }

        private void learnFill() {
            if (fillKnown) {
                return;
            }
            wanting.begin(told.columns, 1);
            addLines(wanting, -1, false);
            addReadings();
            wanting.putInSteps();
            fit = noLineWantsTheImpossible();
            fillKnown = true;
        }

        private void addReadings() {
            for (int i = 0; i < told.eyeCount; i++) {
                Eye one = told.eyes[i];
                for (int k = 0; one.hasReading && k < one.size; k++) {
                    int[] line = wanting.addLine();
                    if (line == null) {
                        return;
                    }
                    line[one.column + k] = 1;
                    line[told.columns] = one.numbers[k];
                }
            }
        }

        private boolean noLineWantsTheImpossible() {
            for (int line = 0; line < wanting.lineCount; line++) {
                if (!wanting.isLeader(line) && wanting.extraAt(line, 0) != 0) {
                    return false;
                }
            }
            return true;
        }

        /** The least line that is 0 at all columns and wants another number; -1: the asks are met. */
        int proofLine(Sheet asks, int from) {
            if (!asks.reaches(from, told.lines)) {
                return -1;
            }
            for (int line = 0; line < told.lines; line++) {
                if (!lines.isLeader(line) && wantOf(line, asks, from) != 0) {
                    return line;
                }
            }
            return -1;
        }

        private int wantOf(int line, Sheet asks, int from) {
            int sum = 0;
            for (int k = 0; k < told.lines; k++) {
                sum += lines.extraAt(line, k) * asks.items[from + k];
            }
            return restOf(sum, told.prime);
        }

        int madeOf(int line, int k) {
            return lines.extraAt(line, k);
        }

        int costOf(int tie) {
            int leaders = leaders();
            // The steps of the fill are written over here, so they are learned anew when next asked for.
            fillKnown = false;
            wanting.begin(told.columns, 0);
            addLines(wanting, tie, false);
            wanting.putInSteps();
            return leaders - wanting.leaderCount;
        }
    }

    /**
     * The fewest readings to drop. A row that agrees is a sum of rows of the basis, so each number
     * of a reading is an equation in how often each is taken; equations are added eye by eye and
     * taken back, which spares putting all lines in steps for each set of eyes.
     */
    private static final class Dropping {
        private final Told told;
        private final Agreement agreement;
        private final int[][] equations = new int[MOST_COLUMNS + 1][MOST_COLUMNS + 1];
        private final int[] ledBy = new int[MOST_COLUMNS + 1];
        private int equationCount;
        private int unknowns;
        private int best;
        private int bestCount;
        private boolean known;

        Dropping(Told told, Agreement agreement) {
            this.told = told;
            this.agreement = agreement;
        }

        void forget() {
            known = false;
        }

        int leastSet() {
            if (!known) {
                unknowns = Math.min(agreement.freeColumns(), MOST_COLUMNS);
                equationCount = 0;
                best = 0;
                bestCount = MOST_EYES + 1;
                searchFrom(told.eyeCount - 1, 0);
                known = true;
            }
            return best;
        }

        /** Goes from the highest eye down, keeping before dropping: sets come as rising numbers. */
        private void searchFrom(int eye, int dropped) {
            int count = Integer.bitCount(dropped);
            if (count >= bestCount) {
                return;
            }
            Eye one = told.eyeAt(eye);
            if (one == null) {
                best = dropped;
                bestCount = count;
                return;
            }
            int before = equationCount;
            if (!one.hasReading || addReading(one)) {
                searchFrom(eye - 1, dropped);
            }
            equationCount = before;
            if (one.hasReading) {
                searchFrom(eye - 1, dropped | 1 << eye);
            }
        }

        private boolean addReading(Eye one) {
            for (int k = 0; k < one.size; k++) {
                if (!addEquation(one.column + k, one.numbers[k])) {
                    return false;
                }
            }
            return true;
        }

        /** False: the equation goes against those that are there. */
        private boolean addEquation(int column, int wanted) {
            if (equationCount > MOST_COLUMNS) {
                return false;
            }
            int[] row = equations[equationCount];
            for (int k = 0; k < unknowns; k++) {
                row[k] = agreement.basisNumber(k, column);
            }
            row[unknowns] = wanted;
            takeOffOthers(row);
            int led = firstNotNought(row);
            if (led < 0) {
                return row[unknowns] == 0;
            }
            int times = inverseOf(row[led], told.prime);
            for (int k = 0; k <= unknowns; k++) {
                row[k] = restOf(row[k] * times, told.prime);
            }
            ledBy[equationCount] = led;
            equationCount++;
            return true;
        }

        private void takeOffOthers(int[] row) {
            for (int i = 0; i < equationCount; i++) {
                int often = row[ledBy[i]];
                if (often != 0) {
                    addTimes(row, equations[i], told.prime - often, unknowns + 1, told.prime);
                }
            }
        }

        private int firstNotNought(int[] row) {
            for (int k = 0; k < unknowns; k++) {
                if (row[k] != 0) {
                    return k;
                }
            }
            return -1;
        }
    }

    /** Who takes of whom, and the row that goes on by ticks. */
    private static final class Hearsay {
        private static final int NO_RULE = -1;
        private static final int MOST_TICKS = 300;
        // Three bits a number: a long has room for half of the columns with ease, not for all.
        private static final int HALF = MOST_COLUMNS / 2;

        private final Told told;
        private final int[] takesOf = new int[MOST_EYES];
        private final int[] takesBy = new int[MOST_EYES];
        int ruleCount;
        private final int[] row = new int[MOST_COLUMNS];
        private final int[] walker = new int[MOST_COLUMNS];
        private final int[] heard = new int[MOST_COLUMNS];
        private final long[] lowSeen = new long[MOST_TICKS + 1];
        private final long[] highSeen = new long[MOST_TICKS + 1];
        int settledBehind;
        int settledLater;
        private boolean spent;
        private boolean known;

        Hearsay(Told told) {
            this.told = told;
            Arrays.fill(takesBy, NO_RULE);
        }

        boolean isFull() {
            return ruleCount >= MOST_RULES;
        }

        /** Only the rule told last counts for an eye, so the earlier ones are only counted. */
        int addRule(int to, int from, int tie) {
            if (isFull() || to < 0 || to >= MOST_EYES) {
                return FULL;
            }
            takesOf[to] = from;
            takesBy[to] = tie;
            ruleCount++;
            known = false;
            return ruleCount;
        }

        int change(int column, int v) {
            if (!told.isColumn(column)) {
                return BAD;
            }
            int was = row[column];
            row[column] = v;
            known = false;
            return was;
        }

        int numberAt(int column) {
            return told.isColumn(column) ? row[column] : BAD;
        }

        int goOn(int ticks) {
            for (int i = 0; i < ticks; i++) {
                hearAll(row);
            }
            known = false;
            int notNought = 0;
            for (int i = 0; i < told.columns; i++) {
                if (row[i] != 0) {
                    notNought++;
                }
            }
            return notNought;
        }

        /** All take at once, so what is heard stays aside until everyone has heard. */
        private void hearAll(int[] numbers) {
            System.arraycopy(numbers, 0, heard, 0, MOST_COLUMNS);
            for (int i = 0; i < told.eyeCount; i++) {
                Eye taker = told.eyes[i];
                if (takesBy[i] != NO_RULE && taker.sort != SORT_HELD) {
                    hearOne(taker, numbers);
                }
            }
            System.arraycopy(heard, 0, numbers, 0, MOST_COLUMNS);
        }

        private void hearOne(Eye taker, int[] numbers) {
            Eye giver = told.linearAt(takesOf[taker.number]);
            Tie tie = told.tieAt(takesBy[taker.number]);
            if (giver == null || tie == null) {
                return;
            }
            int[] table = tie.tableOf(giver.number);
            for (int k = 0; k < taker.size; k++) {
                int sum = 0;
                for (int i = 0; i < giver.size; i++) {
                    sum += table[k * MOST_NUMBERS + i] * numbers[giver.column + i];
                }
                heard[taker.column + k] = restOf(sum, told.prime);
            }
        }

        boolean isSpent() {
            if (!known) {
                settle();
                known = true;
            }
            return spent;
        }

        private void settle() {
            System.arraycopy(row, 0, walker, 0, MOST_COLUMNS);
            spent = false;
            for (int ticks = 0; ticks <= MOST_TICKS; ticks++) {
                lowSeen[ticks] = packed(0);
                highSeen[ticks] = packed(HALF);
                int earlier = firstLike(ticks);
                if (earlier < ticks) {
                    settledBehind = earlier;
                    settledLater = ticks - earlier;
                    return;
                }
                hearAll(walker);
            }
            spent = true;
        }

        private int firstLike(int ticks) {
            long low = lowSeen[ticks];
            long high = highSeen[ticks];
            for (int i = 0; i < ticks; i++) {
                if (lowSeen[i] == low && highSeen[i] == high) {
                    return i;
                }
            }
            return ticks;
        }

        private long packed(int from) {
            long bits = 0;
            for (int i = from; i < from + HALF; i++) {
                bits = bits << 3 | walker[i];
            }
            return bits;
        }
    }

    /** Sets of choices. What goes with a value is kept as a set for each other choice. */
    private static final class Choices {
        private final Told told;
        private final int[][] goesWith = new int[MOST_EYES * MOST_VALUES][MOST_EYES];
        private final boolean[] barsLater = new boolean[MOST_EYES];
        private final int[][] open = new int[MOST_EYES + 1][MOST_EYES];
        private final int[] first = new int[MOST_EYES];
        private int wayCount;
        private boolean known;

        Choices(Told told) {
            this.told = told;
        }

        void forget() {
            known = false;
        }

        void learnBars() {
            for (int i = 0; i < MOST_EYES * MOST_VALUES; i++) {
                Arrays.fill(goesWith[i], (1 << MOST_VALUES) - 1);
            }
            for (int i = 0; i < MOST_EYES; i++) {
                barsLater[i] = false;
            }
            for (int i = 0; i < told.barCount; i++) {
                int at = i * 4;
                bar(told.bars[at], told.bars[at + 1], told.bars[at + 2], told.bars[at + 3]);
            }
            known = false;
        }

        private void bar(int choice, int value, int otherChoice, int otherValue) {
            goesWith[choice * MOST_VALUES + value][otherChoice] &= ~(1 << otherValue);
            goesWith[otherChoice * MOST_VALUES + otherValue][choice] &= ~(1 << value);
            barsLater[Math.min(choice, otherChoice)] = true;
        }

        int narrowSets() {
            int gone = 0;
            boolean changed = true;
            for (int round = 0; round <= MOST_EYES * MOST_VALUES && changed; round++) {
                int before = gone;
                for (int i = 0; i < told.eyeCount; i++) {
                    gone += narrowOne(i);
                }
                changed = gone > before;
            }
            known = false;
            return gone;
        }

        private int narrowOne(int choice) {
            Eye one = told.choiceAt(choice);
            if (one == null) {
                return 0;
            }
            int gone = 0;
            for (int value = 0; value < one.size; value++) {
                if ((one.choiceSet >> value & 1) == 1 && !goesWithAll(choice, value)) {
                    one.choiceSet &= ~(1 << value);
                    gone++;
                }
            }
            return gone;
        }

        private boolean goesWithAll(int choice, int value) {
            int[] with = goesWith[choice * MOST_VALUES + value];
            for (int i = 0; i < told.eyeCount; i++) {
                Eye other = told.eyes[i];
                if (i != choice && other.isChoice() && (other.choiceSet & with[i]) == 0) {
                    return false;
                }
            }
            return true;
        }

        int ways() {
            if (!known) {
                for (int i = 0; i < told.eyeCount; i++) {
                    open[0][i] = told.eyes[i].choiceSet;
                }
                wayCount = waysFrom(0);
                if (wayCount > 0) {
                    findFirst(0);
                }
                known = true;
            }
            return wayCount;
        }

        int firstValue(int choice) {
            return choice < 0 || choice >= MOST_EYES ? NONE : first[choice];
        }

        private int waysFrom(int eye) {
            Eye one = told.eyeAt(eye);
            if (one == null) {
                return 1;
            }
            if (!one.isChoice() || !barsLater[eye]) {
                // Whatever is chosen here leaves the later ones as they are, so it only multiplies.
                System.arraycopy(open[eye], 0, open[eye + 1], 0, MOST_EYES);
                int values = one.isChoice() ? Integer.bitCount(open[eye][eye]) : 1;
                return values == 0 ? 0 : values * waysFrom(eye + 1);
            }
            int sum = 0;
            for (int value = 0; value < one.size; value++) {
                if ((open[eye][eye] >> value & 1) == 1 && leavesLaterOpen(eye, value)) {
                    sum += waysFrom(eye + 1);
                }
            }
            return sum;
        }

        private boolean findFirst(int eye) {
            Eye one = told.eyeAt(eye);
            if (one == null) {
                return true;
            }
            if (!one.isChoice()) {
                System.arraycopy(open[eye], 0, open[eye + 1], 0, MOST_EYES);
                return findFirst(eye + 1);
            }
            for (int value = 0; value < one.size; value++) {
                if ((open[eye][eye] >> value & 1) == 1 && leavesLaterOpen(eye, value)) {
                    first[eye] = value;
                    if (findFirst(eye + 1)) {
                        return true;
                    }
                }
            }
            return false;
        }

        /** Writes what the later ones may still take; false: one of them may take nothing. */
        private boolean leavesLaterOpen(int eye, int value) {
            int[] with = goesWith[eye * MOST_VALUES + value];
            for (int i = eye + 1; i < told.eyeCount; i++) {
                int left = open[eye][i] & with[i];
                if (left == 0 && told.eyes[i].isChoice()) {
                    return false;
                }
                open[eye + 1][i] = left;
            }
            return true;
        }
    }

    /** Kinds of eyes, and the bodies that answer asks of them. */
    private static final class Bodies {
        static final int SIZE = 0;
        static final int MARK = 1;

        private static final int MOST_TRACED = 16;
        private static final int DEEPEST = 40;

        // By sort, and by kind: 0 in a table of bodies means that the kind above is asked.
        private static final int[] KIND_OF_SORT = {1, 2, 3, 4};
        private static final int[] KIND_ABOVE = {-1, 0, 1, 1, 0};
        private static final int[] SIZE_BODY = {10, 11, 12, 13, 14};
        private static final int[] MARK_BODY = {20, 21, 22, 0, 23};

        private final Told told;
        private final int[] traced = new int[MOST_TRACED];
        private int tracedCount;

        Bodies(Told told) {
            this.told = told;
        }

        static int kindOf(Eye one) {
            return one.sort < 0 || one.sort >= KIND_OF_SORT.length ? 0 : KIND_OF_SORT[one.sort];
        }

        static boolean isOfKind(Eye one, int kind) {
            int at = kindOf(one);
            for (int i = 0; i <= LAST_KIND && at >= 0; i++) {
                if (at == kind) {
                    return true;
                }
                at = KIND_ABOVE[at];
            }
            return false;
        }

        int traceNumber(int i) {
            return i < 0 || i >= tracedCount ? NONE : traced[i];
        }

        int answer(Eye one, int what) {
            tracedCount = 0;
            return answerAnew(one, what, 0);
        }

        private int answerAnew(Eye one, int what, int depth) {
            return give(one, bodyFor(kindOf(one), what), depth + 1);
        }

        private static int bodyFor(int kind, int what) {
            int at = kind;
            for (int i = 0; i <= LAST_KIND && at > 0; i++) {
                int body = what == SIZE ? SIZE_BODY[at] : MARK_BODY[at];
                if (body != 0) {
                    return body;
                }
                at = KIND_ABOVE[at];
            }
            return what == SIZE ? SIZE_BODY[0] : MARK_BODY[0];
        }

        private int give(Eye one, int body, int depth) {
            if (depth > DEEPEST) {
                return 0;
            }
            leaveTrace(body);
            int deeper = depth + 1;
            switch (body) {
                case 10:
                    return one.size;
                case 11:
                    return give(one, 10, deeper) + told.tiesOf(one.number);
                case 12:
                    return give(one, 11, deeper) * told.prime;
                case 13:
                    return give(one, 11, deeper) - answerAnew(one, MARK, deeper);
                case 14:
                    return give(one, 10, deeper) + Integer.bitCount(one.choiceSet);
                case 20:
                    return one.number;
                case 21:
                    return give(one, 20, deeper) + (one.hasReading ? 100 : 0);
                case 22:
                    return give(one, 21, deeper) + answerAnew(one, SIZE, deeper);
                case 23:
                    return give(one, 20, deeper) + 1000;
                default:
                    return 0;
            }
        }

        private void leaveTrace(int body) {
            if (tracedCount < MOST_TRACED) {
                traced[tracedCount] = body;
                tracedCount++;
            }
        }
    }
}
