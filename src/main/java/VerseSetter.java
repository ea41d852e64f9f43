import java.util.Arrays;

/**
 * A typesetter for verse: lines are indented by their rhymes, broken into rows where it costs least,
 * and distributed to pages such that as few stanzas as possible are cut.
 */
public final class VerseSetter {
    public static final int BAD = -1, NOT = -2, FULL = -3, NONE = -4, NULL = -11, CAST = -12, INDEX = -13, SIZE = -14;

    private static final int LINES = 12, WORDS = 6, RHYMES = 4, LETTERS = 9, PAUSES = 4;
    private static final int CHARACTERS = 90, ACTIONS = 6, TURNS = 40;
    private static final int SHEETS = 4, LANES = 4, ELEMENTS = 24;

    private static final int MEASURE = 0, STEP = 1, OVER = 2, HEIGHT = 3, KEEP = 4, RULE = 5, SCHEME = 6, SETTINGS = 7;
    private static final int[] LEAST = {6, 0, 0, 2, 1, 0, 0};
    private static final int[] MOST = {40, 4, 9, 20, 3, 2, 2};
    private static final int[] AT_FIRST = {20, 2, 4, 8, 2, 0, 1};
    private static final int GREATEST_HEIGHT = 20;

    private static final int TEXT_ERROR = -20;

    private final Poem poem = new Poem();
    private final Poem before = new Poem();
    private final History history = new History();
    private final Poem imagePoem = new Poem();
    private final History imageHistory = new History();
    private boolean hasImage = false;
    private final Tape tape = new Tape();
    private final Layout layout = new Layout();
    private final Pages pages = new Pages();
    private final Odds odds = new Odds();
    private final Sheet[] sheets = new Sheet[SHEETS];

    public VerseSetter() {
        for (int s = 0; s < SHEETS; s++) {
            sheets[s] = new Sheet();
        }
    }

    // ---- 1 lines, settings, pages

    public int line(int rhyme, int begins) {
        before.takeOver(poem);
        return recorded(poem.addLine(rhyme, begins));
    }

    public int word(int letters, int pause) {
        before.takeOver(poem);
        return recorded(poem.addWord(letters, pause));
    }

    public int drop() {
        before.takeOver(poem);
        return recorded(poem.removeLine());
    }

    public int rhyme(int k, int r) {
        before.takeOver(poem);
        return recorded(poem.changeRhyme(k, r));
    }

    public int tell(int what, int v) {
        before.takeOver(poem);
        return recorded(poem.changeSetting(what, v));
    }

    public int of(int k, int what) {
        if (!poem.hasLine(k)) {
            return BAD;
        }
        switch (what) {
            case 0: return poem.rhymeOf(k);
            case 1: return poem.beginsStanza(k) ? 1 : 0;
            case 2: return poem.wordsOf(k);
            case 3: return poem.stanzaOf(k);
            case 4: return poem.indentationOf(k);
            case 5: return laidOut(k).rows;
            case 6: return laidOut(k).cost;
            case 7: return distributed().pageOf(k);
            default: return BAD;
        }
    }

    public int said(int k, int i, int what) {
        if (!poem.hasLine(k) || i < 0 || i >= poem.wordsOf(k)) {
            return BAD;
        }
        switch (what) {
            case 0: return poem.lettersOf(k, i);
            case 1: return poem.pauseOf(k, i);
            case 2: return laidOut(k).rowOf(i);
            case 3: return laidOut(k).positionOf(i);
            default: return BAD;
        }
    }

    public int count(int what) {
        if (what >= 0 && what < SETTINGS) {
            return poem.setting(what);
        }
        switch (what) {
            case 7: return poem.lines();
            case 8: return poem.stanzas();
            case 9: return costOfAll();
            case 10: return distributed().number();
            case 11: return distributed().cutStanzas();
            case 12: return history.size;
            default: return BAD;
        }
    }

    public int page(int p, int what) {
        // The number of pages is NONE, and so below every p, if there is no distribution.
        if (p < 0 || p >= distributed().number()) {
            return BAD;
        }
        int first = pages.firstLineOf(p);
        int end = pages.firstLineOf(p + 1);
        switch (what) {
            case 0: return first;
            case 1: return end - first;
            case 2: return pages.heightOf(poem, first, end);
            default: return BAD;
        }
    }

    // ---- 2 stanzas, odds

    public long stanza(int k, int what) {
        if (k < 0 || k >= poem.stanzas()) {
            return BAD;
        }
        int first = poem.firstLineOf(k);
        switch (what) {
            case 0: return first;
            case 1: return poem.stanzaEnd(first) - first;
            case 2: return poem.rhymesIn(first);
            case 3: return poem.shapeOf(first);
            case 4: return firstLike(k);
            default: return BAD;
        }
    }

    public int settings(int k) {
        return poem.hasLine(k) ? laidOut(k).number : BAD;
    }

    public long whole(int c, int what) {
        if (c < 0 || c > 10 || what < 0 || what > 1) {
            return BAD;
        }
        pages.measure(poem, layout);
        odds.compute(poem, pages, c);
        return what == 0 ? odds.numerator : odds.denominator;
    }

    // ---- 3 what is done

    public int type(int letter) {
        return tape.append(letter);
    }

    public int read() {
        before.takeOver(poem);
        int wrong = tape.parse();
        tape.length = 0;
        if (wrong != Tape.NOTHING_WRONG) {
            return TEXT_ERROR - wrong;
        }
        poem.takeLines(tape.text);
        return recorded(poem.lines());
    }

    public int drift(int n) {
        if (n < 1 || n > TURNS) {
            return BAD;
        }
        for (int turn = 0; turn < n; turn++) {
            history.remember(poem);
            poem.turn();
        }
        return poem.lines();
    }

    public int undo() {
        if (history.size == 0) {
            return NONE;
        }
        history.takeBack(poem);
        return history.size;
    }

    public int seed(int v) {
        if (v < 0) {
            return BAD;
        }
        int previous = poem.randomNumber();
        poem.setRandomNumber(v);
        return previous;
    }

    public int image() {
        imagePoem.takeOver(poem);
        imageHistory.takeOver(history);
        hasImage = true;
        return 1;
    }

    public int restore() {
        if (!hasImage) {
            return NONE;
        }
        poem.takeOver(imagePoem);
        history.takeOver(imageHistory);
        return 1;
    }

    // ---- 4 sheets

    public int cuts(int sheet, int lane, int i, int n) {
        if (n < 1 || n > LINES) {
            return BAD;
        }
        int error = errorOf(sheet, lane, i, n);
        if (error != 0) {
            return error;
        }
        if (!sheets[sheet].addsUpTo(poem.lines(), i, n)) {
            return NOT;
        }
        pages.measure(poem, layout);
        return cutsOf(sheets[sheet], i, n);
    }

    public int film(int sheet, int lane, int i) {
        int error = errorOf(sheet, lane, i, poem.lines());
        if (error != 0) {
            return error;
        }
        for (int k = 0; k < poem.lines(); k++) {
            sheets[sheet].put(i + k, laidOut(k).rows);
        }
        return poem.lines();
    }

    public int sheet(int sheet, int lane, int n) {
        if (!isSheet(sheet) || !isLane(lane) || n > ELEMENTS) {
            return BAD;
        }
        if (n < 0) {
            return SIZE;
        }
        sheets[sheet].renew(lane, n);
        return n;
    }

    public int lift(int sheet) {
        if (!isSheet(sheet)) {
            return BAD;
        }
        if (sheets[sheet].isEmpty) {
            return NULL;
        }
        sheets[sheet].isEmpty = true;
        return sheets[sheet].length;
    }

    public int item(int sheet, int lane, int i, long v) {
        int error = errorOf(sheet, lane, i, 1);
        if (error != 0) {
            return error;
        }
        sheets[sheet].put(i, v);
        return 1;
    }

    public int copy(int from, int i, int to, int j, int n) {
        if (!isSheet(from) || !isSheet(to)) {
            return BAD;
        }
        Sheet source = sheets[from];
        Sheet target = sheets[to];
        if (source.isEmpty || target.isEmpty) {
            return NULL;
        }
        if (source.lane != target.lane) {
            return CAST;
        }
        if (!source.isInside(i, n) || !target.isInside(j, n)) {
            return INDEX;
        }
        System.arraycopy(source.elements, i, target.elements, j, n);
        return n;
    }

    // ---- helpers of the methods above

    /** Records the action whose call has this answer, if it succeeded; "before" holds what was there before it. */
    private int recorded(int answer) {
        if (answer >= 0) {
            history.remember(before);
        }
        return answer;
    }

    private Layout laidOut(int k) {
        layout.compute(poem, k);
        return layout;
    }

    private Pages distributed() {
        pages.measure(poem, layout);
        pages.distribute(poem);
        return pages;
    }

    private int costOfAll() {
        int sum = 0;
        for (int k = 0; k < poem.lines(); k++) {
            int cost = laidOut(k).cost;
            if (cost == NONE) {
                return NONE;
            }
            sum += cost;
        }
        return sum;
    }

    private int firstLike(int stanza) {
        int first = poem.firstLineOf(stanza);
        int size = poem.stanzaEnd(first) - first;
        long shape = poem.shapeOf(first);
        for (int s = 0; s < stanza; s++) {
            int other = poem.firstLineOf(s);
            if (poem.stanzaEnd(other) - other == size && poem.shapeOf(other) == shape) {
                return s;
            }
        }
        return stanza;
    }

    /** The cuts of a distribution whose numbers of lines add up to that of the poem. */
    private int cutsOf(Sheet sheet, int i, int n) {
        if (!pages.allFit) {
            return NONE;
        }
        int sum = 0;
        int from = 0;
        for (int p = 0; p < n; p++) {
            int to = from + (int) sheet.elements[i + p];
            if (!pages.isAllowed(poem, from, to)) {
                return NONE;
            }
            sum += poem.isInsideStanza(to) ? 1 : 0;
            from = to;
        }
        return sum;
    }

    private static boolean isSheet(int sheet) {
        return sheet >= 0 && sheet < SHEETS;
    }

    private static boolean isLane(int lane) {
        return lane >= 0 && lane < LANES;
    }

    /** The first error of a call that uses n elements of a sheet from index i on, or 0. */
    private int errorOf(int sheet, int lane, int i, int n) {
        if (!isSheet(sheet) || !isLane(lane)) {
            return BAD;
        }
        if (sheets[sheet].isEmpty) {
            return NULL;
        }
        if (sheets[sheet].lane != lane) {
            return CAST;
        }
        return sheets[sheet].isInside(i, n) ? 0 : INDEX;
    }

    /** The lines, the settings and the random number: all that an action can change. */
    private static final class Poem {
        // All is held in one row, so that taking over another poem is one copy, which can forget nothing:
        // the settings, the random number, the number of lines, then for each line its rhyme, whether it
        // begins a stanza, its number of words, and its words (the letters and the pause in one number).
        private static final int RANDOM = SETTINGS, COUNT = RANDOM + 1;
        private static final int RHYME = COUNT + 1, BEGINS = RHYME + LINES, WORD_COUNT = BEGINS + LINES;
        private static final int WORD = WORD_COUNT + LINES, CELLS = WORD + LINES * WORDS;

        private final int[] cells = new int[CELLS];

        Poem() {
            for (int what = 0; what < SETTINGS; what++) {
                cells[what] = AT_FIRST[what];
            }
            cells[RANDOM] = 1;
        }

        void takeOver(Poem other) {
            System.arraycopy(other.cells, 0, cells, 0, CELLS);
        }

        void takeLines(Poem other) {
            System.arraycopy(other.cells, COUNT, cells, COUNT, CELLS - COUNT);
        }

        void removeAllLines() {
            cells[COUNT] = 0;
        }

        // -- what an action does, with the answer of its call

        int addLine(int rhyme, int begins) {
            if (!isRhyme(rhyme) || begins < 0 || begins > 1) {
                return BAD;
            }
            int k = lines();
            if (k >= LINES) {
                return FULL;
            }
            cells[RHYME + k] = rhyme;
            cells[BEGINS + k] = k == 0 ? 1 : begins;
            cells[WORD_COUNT + k] = 0;
            cells[COUNT] = k + 1;
            return k;
        }

        int addWord(int letters, int pause) {
            if (letters < 1 || letters > LETTERS || pause < 0 || pause >= PAUSES) {
                return BAD;
            }
            int k = lines() - 1;
            if (k < 0) {
                return NONE;
            }
            int words = wordsOf(k);
            if (words >= WORDS) {
                return FULL;
            }
            cells[WORD + k * WORDS + words] = letters * PAUSES + pause;
            cells[WORD_COUNT + k] = words + 1;
            return words + 1;
        }

        void setLastPause(int pause) {
            int k = lines() - 1;
            if (k < 0 || wordsOf(k) == 0) {
                return;
            }
            int last = wordsOf(k) - 1;
            cells[WORD + k * WORDS + last] = lettersOf(k, last) * PAUSES + pause;
        }

        int removeLine() {
            if (lines() == 0) {
                return NONE;
            }
            cells[COUNT]--;
            return lines();
        }

        int changeRhyme(int k, int r) {
            if (!hasLine(k) || !isRhyme(r)) {
                return BAD;
            }
            int previous = rhymeOf(k);
            if (previous == r) {
                return NOT;
            }
            cells[RHYME + k] = r;
            return previous;
        }

        int changeSetting(int what, int v) {
            if (what < 0 || what >= SETTINGS || v < LEAST[what] || v > MOST[what]) {
                return BAD;
            }
            int previous = cells[what];
            if (previous == v) {
                return NOT;
            }
            cells[what] = v;
            return previous;
        }

        /** One random turn; a call in it that would return an error changes nothing by itself. */
        void turn() {
            cells[RANDOM] = (int) ((randomNumber() * 1103515245L + 12345L) & 0x7fffffffL);
            int x = randomNumber() / 65536;
            int y = x / 8;
            switch (x % 8) {
                case 0:
                case 1:
                    addLine(y % 4, y / 4 % 2);
                    break;
                case 2:
                case 3:
                case 4:
                    addWord(y % 9 + 1, y / 9 % 4);
                    break;
                case 5:
                    changeRhyme(y / 4 % 12, y % 4);
                    break;
                case 6:
                    changeSetting(RULE, y % 3);
                    break;
                default:
                    changeSetting(MEASURE, y % 35 + 6);
                    break;
            }
        }

        // -- what it holds

        int setting(int what) {
            return cells[what];
        }

        int randomNumber() {
            return cells[RANDOM];
        }

        void setRandomNumber(int v) {
            cells[RANDOM] = v;
        }

        int lines() {
            return cells[COUNT];
        }

        boolean hasLine(int k) {
            return k >= 0 && k < lines();
        }

        int rhymeOf(int k) {
            return cells[RHYME + k];
        }

        boolean beginsStanza(int k) {
            return cells[BEGINS + k] == 1;
        }

        int wordsOf(int k) {
            return cells[WORD_COUNT + k];
        }

        int lettersOf(int k, int i) {
            return cells[WORD + k * WORDS + i] / PAUSES;
        }

        int pauseOf(int k, int i) {
            return cells[WORD + k * WORDS + i] % PAUSES;
        }

        private static boolean isRhyme(int r) {
            return r >= 0 && r < RHYMES;
        }

        // -- stanzas

        int stanzas() {
            return lines() == 0 ? 0 : stanzaOf(lines() - 1) + 1;
        }

        int stanzaOf(int k) {
            int stanza = 0;
            for (int l = 1; l <= k; l++) {
                stanza += beginsStanza(l) ? 1 : 0;
            }
            return stanza;
        }

        int firstLineOf(int stanza) {
            int k = 0;
            while (k < lines() && stanzaOf(k) < stanza) {
                k++;
            }
            return k;
        }

        int stanzaStart(int k) {
            int start = k;
            while (start > 0 && cells[BEGINS + start] == 0) {
                start--;
            }
            return start;
        }

        /** The line after the last one of the stanza of line k. */
        int stanzaEnd(int k) {
            int end = k + 1;
            while (end < cells[COUNT] && cells[BEGINS + end] == 0) {
                end++;
            }
            return end;
        }

        /** Whether there is such a line, and it belongs to the same stanza as the line before it. */
        boolean isInsideStanza(int k) {
            return k < cells[COUNT] && cells[BEGINS + k] == 0;
        }

        int rankOf(int k) {
            int rhymes = 0;
            for (int l = stanzaStart(k); l < k && rhymeOf(l) != rhymeOf(k); l++) {
                rhymes |= 1 << rhymeOf(l);
            }
            return Integer.bitCount(rhymes);
        }

        /** How many different rhymes there are in the stanza that begins with this line. */
        int rhymesIn(int first) {
            int rhymes = 0;
            int end = stanzaEnd(first);
            for (int l = first; l < end; l++) {
                rhymes |= 1 << rhymeOf(l);
            }
            return Integer.bitCount(rhymes);
        }

        long shapeOf(int first) {
            long shape = 0;
            int end = stanzaEnd(first);
            for (int l = first; l < end; l++) {
                shape = 10 * shape + rankOf(l);
            }
            return shape;
        }

        int indentationOf(int k) {
            switch (setting(SCHEME)) {
                case 1: return setting(STEP) * rankOf(k);
                case 2: return setting(STEP) * ((k - stanzaStart(k)) % 2);
                default: return 0;
            }
        }
    }

    /** The poems before the latest actions. */
    private static final class History {
        private final Poem[] ring = new Poem[ACTIONS];
        private int next = 0;
        int size = 0;

        History() {
            for (int a = 0; a < ACTIONS; a++) {
                ring[a] = new Poem();
            }
        }

        void remember(Poem before) {
            ring[next].takeOver(before);
            next = (next + 1) % ACTIONS;
            size = Math.min(size + 1, ACTIONS);
        }

        void takeBack(Poem poem) {
            next = (next + ACTIONS - 1) % ACTIONS;
            poem.takeOver(ring[next]);
            size--;
        }

        void takeOver(History other) {
            for (int a = 0; a < ACTIONS; a++) {
                ring[a].takeOver(other.ring[a]);
            }
            next = other.next;
            size = other.size;
        }
    }

    /** The layout of one line, found from the last word back: what follows a row does not depend on what is before it. */
    private static final class Layout {
        // The rest of a line from word i on, if a row begins with that word: the smallest cost (NONE if it
        // has no layout), the first word of the next row then, and the number of layouts.
        private final int[] restCost = new int[WORDS + 1];
        private final int[] nextRow = new int[WORDS + 1];
        private final int[] restNumber = new int[WORDS + 1];
        private final int[] row = new int[WORDS];
        private final int[] position = new int[WORDS];
        private int indentation;
        int number;
        int cost;
        int rows;

        void compute(Poem poem, int k) {
            int words = poem.wordsOf(k);
            indentation = poem.indentationOf(k);
            restCost[words] = 0;
            restNumber[words] = 1;
            for (int i = words - 1; i >= 0; i--) {
                beginRow(poem, k, i);
            }
            number = restNumber[0];
            cost = restCost[0];
            if (cost == NONE) {
                rows = NONE;
            } else {
                placeWords(poem, k);
            }
        }

        int rowOf(int i) {
            return cost == NONE ? NONE : row[i];
        }

        int positionOf(int i) {
            return cost == NONE ? NONE : position[i];
        }

        /** Tries all rows that begin with word i; of several that cost the same, the longest one stays. */
        private void beginRow(Poem poem, int k, int i) {
            int words = poem.wordsOf(k);
            restCost[i] = NONE;
            restNumber[i] = 0;
            int width = beginningOf(poem, i) - 1;
            for (int end = i + 1; end <= words; end++) {
                width += 1 + poem.lettersOf(k, end - 1);
                if (width > poem.setting(MEASURE)) {
                    return;
                }
                restNumber[i] += restNumber[end];
                if (restCost[end] == NONE) {
                    continue;
                }
                int sum = restCost[end];
                if (end < words) {
                    sum += rowCost(poem, poem.pauseOf(k, end - 1), width);
                }
                if (restCost[i] == NONE || sum <= restCost[i]) {
                    restCost[i] = sum;
                    nextRow[i] = end;
                }
            }
        }

        /** Where a row begins whose first word is word i. */
        private int beginningOf(Poem poem, int i) {
            return i == 0 ? indentation : indentation + poem.setting(OVER);
        }

        private static int rowCost(Poem poem, int pause, int width) {
            int room = poem.setting(MEASURE) - width;
            switch (poem.setting(RULE)) {
                case 1: return 10 + (3 - pause) * (3 - pause);
                case 2: return room * room;
                default: return 1;
            }
        }

        private void placeWords(Poem poem, int k) {
            int words = poem.wordsOf(k);
            int begun = 0;
            int nextBeginning = 0;
            int column = 0;
            for (int i = 0; i < words; i++) {
                if (i == nextBeginning) {
                    begun++;
                    nextBeginning = nextRow[i];
                    column = beginningOf(poem, i);
                }
                row[i] = begun - 1;
                position[i] = column;
                column += poem.lettersOf(k, i) + 1;
            }
            // A line without words has a row, too.
            rows = Math.max(begun, 1);
        }
    }

    /** The distribution to pages, found from the last line back, as a layout is. */
    private static final class Pages {
        // A cut weighs more than all pages together, since the fewest cuts come first.
        private static final int PAGE = 1, CUT = 100;

        final int[] rows = new int[LINES];
        boolean allFit;
        // The rest of the poem from line k on, if a page begins with that line: the smallest weight (NONE if
        // no distribution is allowed) and the first line of the next page then.
        private final int[] restWeight = new int[LINES + 1];
        private final int[] nextPage = new int[LINES + 1];

        /** Notes the rows of all lines; everything else here rests on them. */
        void measure(Poem poem, Layout layout) {
            allFit = true;
            for (int k = 0; k < poem.lines(); k++) {
                layout.compute(poem, k);
                rows[k] = layout.rows;
                allFit = allFit && layout.rows != NONE;
            }
        }

        void distribute(Poem poem) {
            int lines = poem.lines();
            restWeight[lines] = 0;
            for (int k = lines - 1; k >= 0; k--) {
                beginPage(poem, k);
            }
            if (!allFit) {
                restWeight[0] = NONE;
            }
        }

        /** Tries all pages that begin with line k; of several that weigh the same, the longest one stays. */
        private void beginPage(Poem poem, int k) {
            restWeight[k] = NONE;
            for (int end = k + 1; end <= poem.lines(); end++) {
                if (restWeight[end] == NONE || !isAllowed(poem, k, end)) {
                    continue;
                }
                int sum = restWeight[end] + PAGE + (poem.isInsideStanza(end) ? CUT : 0);
                if (restWeight[k] == NONE || sum <= restWeight[k]) {
                    restWeight[k] = sum;
                    nextPage[k] = end;
                }
            }
        }

        /** Whether a page may hold the lines from "from" to the one before "to". */
        boolean isAllowed(Poem poem, int from, int to) {
            if (heightOf(poem, from, to) > poem.setting(HEIGHT)) {
                return false;
            }
            if (!poem.isInsideStanza(to)) {
                return true;
            }
            int linesBefore = to - Math.max(from, poem.stanzaStart(to));
            int linesAfter = poem.stanzaEnd(to) - to;
            return Math.min(linesBefore, linesAfter) >= poem.setting(KEEP);
        }

        int heightOf(Poem poem, int from, int to) {
            int height = 0;
            for (int k = from; k < to; k++) {
                height += rows[k];
                if (k > from && poem.beginsStanza(k)) {
                    height++;
                }
            }
            return height;
        }

        int number() {
            return restWeight[0] == NONE ? NONE : restWeight[0] % CUT;
        }

        int cutStanzas() {
            return restWeight[0] == NONE ? NONE : restWeight[0] / CUT;
        }

        /** The first line of page p, or the number of lines if p is the number of pages. */
        int firstLineOf(int p) {
            int k = 0;
            for (int q = 0; q < p; q++) {
                k = nextPage[k];
            }
            return k;
        }

        int pageOf(int k) {
            if (restWeight[0] == NONE) {
                return NONE;
            }
            int p = 0;
            while (p < LINES && firstLineOf(p + 1) <= k) {
                p++;
            }
            return p;
        }
    }

    /** The probability that no stanza need be cut: each one must then have a page that can hold all its lines that are left. */
    private static final class Odds {
        // For each number of rows, the tenths (to the power of the lines seen) in which a stanza has as many.
        private final long[] tenths = new long[GREATEST_HEIGHT + 1];
        long numerator;
        long denominator;

        void compute(Poem poem, Pages pages, int c) {
            numerator = pages.allFit ? 1 : 0;
            denominator = 1;
            if (!pages.allFit) {
                return;
            }
            for (int k = 0; k < poem.lines(); k++) {
                denominator *= 10;
                if (poem.beginsStanza(k)) {
                    numerator *= fitting(poem.setting(HEIGHT), pages, k, poem.stanzaEnd(k), c);
                }
            }
            reduce();
        }

        /** The tenths in which the lines from "first" to the one before "end" that are left have at most so many rows. */
        private long fitting(int height, Pages pages, int first, int end, int c) {
            Arrays.fill(tenths, 0L);
            tenths[0] = 1;
            for (int k = first; k < end; k++) {
                int rows = pages.rows[k];
                for (int r = height; r >= 0; r--) {
                    long left = r >= rows ? tenths[r - rows] : 0;
                    tenths[r] = tenths[r] * c + left * (10 - c);
                }
            }
            long sum = 0;
            for (int r = 0; r <= height; r++) {
                sum += tenths[r];
            }
            return sum;
        }

        /** The denominator is a power of ten, so 2 and 5 are the only divisors to look for; 0 is divided down to 0/1. */
        private void reduce() {
            for (int n = 0; n < LINES; n++) {
                divideBoth(2);
                divideBoth(5);
            }
        }

        private void divideBoth(int divisor) {
            if (divisor > 0 && numerator % divisor == 0 && denominator % divisor == 0) {
                numerator /= divisor;
                denominator /= divisor;
            }
        }
    }

    /** The tape, and the lines of the text on it. */
    private static final class Tape {
        static final int NOTHING_WRONG = -1;

        private final int[] characters = new int[CHARACTERS];
        int length = 0;
        final Poem text = new Poem();
        private boolean afterBar;
        private boolean afterDigit;

        int append(int letter) {
            if (letter < 32 || letter > 126) {
                return BAD;
            }
            if (length >= CHARACTERS) {
                return FULL;
            }
            characters[length] = letter;
            length++;
            return length;
        }

        /** Turns the tape into lines of "text"; returns the error position, or NOTHING_WRONG. */
        int parse() {
            text.removeAllLines();
            afterBar = false;
            afterDigit = false;
            for (int p = 0; p < length; p++) {
                if (characters[p] != ' ' && !accepts(characters[p])) {
                    return p;
                }
            }
            return afterBar ? length : NOTHING_WRONG;
        }

        private boolean accepts(int c) {
            if (c >= 'A' && c <= 'D') {
                return acceptsLine(c - 'A');
            }
            if (afterBar || text.lines() == 0) {
                return false;
            }
            if (c >= '1' && c <= '9') {
                afterDigit = true;
                return text.addWord(c - '0', 0) > 0;
            }
            if (c == '|') {
                afterBar = true;
                return true;
            }
            return acceptsPause(c);
        }

        private boolean acceptsLine(int rhyme) {
            int begins = afterBar ? 1 : 0;
            afterBar = false;
            afterDigit = false;
            return text.addLine(rhyme, begins) >= 0;
        }

        private boolean acceptsPause(int c) {
            int pause = pauseOf(c);
            if (pause == 0 || !afterDigit) {
                return false;
            }
            afterDigit = false;
            text.setLastPause(pause);
            return true;
        }

        private static int pauseOf(int c) {
            switch (c) {
                case ',': return 1;
                case '.': return 2;
                case '!': return 3;
                default: return 0;
            }
        }
    }

    /** A sheet; its elements are kept as longs that have been narrowed to its element type. */
    private static final class Sheet {
        final long[] elements = new long[ELEMENTS];
        boolean isEmpty = true;
        int lane = 0;
        int length = 0;

        void renew(int newLane, int n) {
            Arrays.fill(elements, 0L);
            isEmpty = false;
            lane = newLane;
            length = n;
        }

        /** Subtracts, where the document adds, since i + n might overflow. */
        boolean isInside(int i, int n) {
            return i >= 0 && n >= 0 && n <= length && i <= length - n;
        }

        void put(int i, long v) {
            switch (lane) {
                case 0:
                    elements[i] = (byte) v;
                    break;
                case 1:
                    elements[i] = (short) v;
                    break;
                case 2:
                    elements[i] = (int) v;
                    break;
                default:
                    elements[i] = v;
                    break;
            }
        }

        /** Whether n elements from index i on are numbers of lines on pages of a poem with so many lines. */
        boolean addsUpTo(int lines, int i, int n) {
            long sum = 0;
            for (int e = i; e < i + n; e++) {
                if (elements[e] < 1 || elements[e] > LINES) {
                    return false;
                }
                sum += elements[e];
            }
            return sum == lines;
        }
    }
}
