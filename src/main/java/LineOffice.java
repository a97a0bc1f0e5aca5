import java.util.NoSuchElementException;

/**
 * A word counter's office: writers hand in works, which are broken into lines and paid by the lines
 * that count. The document ../shared/DOC.md says what each call answers.
 */
public final class LineOffice {
    public static final int NONE = -1;
    public static final int WRONG = -2;
    public static final int FULL = -3;
    public static final int NO_ERROR = 0;
    public static final int SYNTAX = 1;
    public static final int OUT_OF_RANGE = 2;
    public static final int REPEATED = 3;
    public static final int TOO_MANY = 4;
    public static final int PROSE = 0, VERSE = 1, LIST = 2;

    private static final int MOST_INPUT = 600;
    private static final int MOST_OUTPUT = 256;
    private static final int MOST_READ = 500;
    private static final int MOST_WRITERS = 6;
    private static final int MOST_WORKS = 12;
    private static final int MOST_WORDS = 60;
    private static final int MOST_LETTERS = 12;
    private static final int MOST_NAME_LETTERS = 6;
    private static final int MOST_DIGITS = 5;
    private static final int MOST_ENTRIES = 30;
    private static final int MOST_CHANGES = 8;
    private static final int MOST_LOST = 3;
    private static final int MOST_MONEY = 99999;
    private static final int MOST_ENDOWED = 9999;
    private static final int MOST_ADVANCED = 999;
    private static final int MOST_DAYS = 99;
    private static final int LAST_DAY = 9999;
    private static final int PLACES = 100;

    private static final int MEASURE = 0;
    private static final int STUFF = 1;
    private static final int WORN = 2;
    private static final int FINE = 3;
    private static final int TERM = 4;
    private static final int DISTINCT = 5;
    private static final int FEE = 6;
    private static final int RATE = 7;
    private static final Setting[] SETTINGS = Setting.values();

    private static final int COUNTS = 0;
    private static final int CAUGHT = 1;
    private static final int GRANTED = 2;
    private static final int LOST = 3;

    private static final int NO_REASON = 0;
    private static final int IS_STALE = 1;
    private static final int IS_STUFFED = 2;
    private static final int IS_WORN = 3;

    private static final int PAY_ENTRY = 0;
    private static final int FINES_ENTRY = 1;
    private static final int GRANT_ENTRY = 2;
    private static final int FEE_ENTRY = 3;
    private static final int PAYOUT_ENTRY = 4;
    private static final int ADVANCE_ENTRY = 5;

    /** The code of a word without letters, which no word has. */
    private static final long NO_WORD = 0;
    private static final int LETTER_BITS = 5;
    private static final int LETTER_MASK = 31;

    private final Input input;
    private final Output output;
    private final State now;
    private final State saved;
    private final History history;
    private final SetupReader setup;
    private final Past past;
    private boolean isSaved;
    private int error;
    private int errorAt;

    public LineOffice() {
        input = new Input();
        output = new Output();
        now = new State();
        saved = new State();
        history = new History();
        setup = new SetupReader();
        past = new Past();
        isSaved = false;
        error = NO_ERROR;
        errorAt = NONE;
        now.enrol(coded("a"));
    }

    public int appendInput(int a, int b, int c, int d, int e) {
        if (!input.hasRoomForTwenty()) {
            return NONE;
        }
        input.appendFour(a);
        input.appendFour(b);
        input.appendFour(c);
        input.appendFour(d);
        input.appendFour(e);
        return input.length;
    }

    public boolean truncateInput(int length) {
        if (length < 0 || length > input.length) {
            return false;
        }
        input.length = length;
        return true;
    }

    public int loadOffice() {
        boolean isRead = setup.read(input);
        input.length = 0;
        error = setup.error;
        errorAt = setup.errorAt;
        if (!isRead) {
            return NONE;
        }
        now.takeOver(setup.draft);
        history.forget();
        isSaved = false;
        return now.writers;
    }

    public int errorCode() {
        return error;
    }

    public int errorOffset() {
        return errorAt;
    }

    public int count(int what) throws IllegalArgumentException {
        switch (what) {
            case 0: return now.writers;
            case 1: return now.works;
            case 2: return now.linesOf(NONE, Line.ALL);
            case 3: return now.linesOf(NONE, Line.COUNTING);
            case 4: return now.day;
            case 5: return now.money;
            case 6: return now.ledger.size;
            case 7: return now.owed();
            case 8: return history.size;
            default: throw new IllegalArgumentException("no such number of the whole");
        }
    }

    public int setting(int what) throws IllegalArgumentException {
        checkSetting(what);
        return now.rule(what);
    }

    public int writer(int writer, int what) throws IndexOutOfBoundsException, IllegalArgumentException {
        checkWriter(writer);
        switch (what) {
            case 0: return now.balanceOf(writer);
            case 1: return now.worksOf(writer);
            case 2: return now.linesOf(writer, Line.ALL);
            case 3: return now.linesOf(writer, Line.COUNTING);
            case 4: return now.linesOf(writer, Line.CAUGHT_FIRST);
            case 5: return now.linesOf(writer, Line.BY_APPEAL);
            case 6: return now.linesOf(writer, Line.OF_LOST_APPEAL);
            case 7: return now.paidTo(writer);
            case 8: return wordsInLines(writer, 1);
            case 9: return wordsInLines(writer, now.rule(WORN));
            default: throw new IllegalArgumentException("no such number of a writer");
        }
    }

    public int work(int work, int what) throws IndexOutOfBoundsException, IllegalArgumentException {
        Work asked = workOrThrow(work);
        switch (what) {
            case 0: return asked.writer;
            case 1: return asked.script.kind;
            case 2: return asked.day;
            case 3: return asked.script.size();
            case 4: return asked.size();
            case 5: return asked.linesOf(Line.COUNTING);
            case 6: return asked.payOfCounting();
            case 7: return asked.script.differentBetween(0, asked.script.size());
            default: throw new IllegalArgumentException("no such number of a work");
        }
    }

    public int line(int work, int line, int what) throws IndexOutOfBoundsException, IllegalArgumentException {
        Line asked = lineOrThrow(work, line);
        switch (what) {
            case 0: return asked.from;
            case 1: return asked.to - asked.from;
            case 2: return asked.width;
            case 3: return asked.state;
            case 4: return asked.reason;
            case 5: return asked.pay;
            case 6: return asked.different();
            default: throw new IllegalArgumentException("no such number of a line");
        }
    }

    public int likeLine(int work, int line) throws IndexOutOfBoundsException {
        Line asked = lineOrThrow(work, line);
        int writer = workOrThrow(work).writer;
        for (int i = 0; i < work; i++) {
            Work earlier = now.workOf(writer, i);
            int like = earlier == null ? NONE : earlier.firstLike(asked);
            if (like != NONE) {
                return PLACES * i + like;
            }
        }
        int first = workOrThrow(work).firstLike(asked);
        return first == line ? NONE : PLACES * work + first;
    }

    public int letters(int work, int word) throws IndexOutOfBoundsException {
        Work asked = workOrThrow(work);
        if (word < 0 || word >= asked.script.size()) {
            throw new IndexOutOfBoundsException("no such word");
        }
        return lengthOf(asked.script.wordAt(word));
    }

    public int uses(int writer) throws IndexOutOfBoundsException {
        checkWriter(writer);
        long word = input.wholeWord();
        input.length = 0;
        now.collect(past, writer, now.works);
        return word == NO_WORD ? 0 : past.linesWith(word);
    }

    public int favourite(int writer) throws IndexOutOfBoundsException {
        checkWriter(writer);
        now.collect(past, writer, now.works);
        int most = 0;
        int place = NONE;
        for (int i = 0; i < now.works; i++) {
            Work work = now.workOf(writer, i);
            for (int j = 0; work != null && j < work.script.size(); j++) {
                int lines = past.linesWith(work.script.wordAt(j));
                if (lines > most) {
                    most = lines;
                    place = PLACES * i + j;
                }
            }
        }
        return place;
    }

    public int common(int work, int other) throws IndexOutOfBoundsException {
        Script first = workOrThrow(work).script;
        Script second = workOrThrow(other).script;
        int shared = 0;
        for (int i = 0; i < first.size(); i++) {
            if (first.isNewAt(0, i) && second.times(first.wordAt(i), 0, second.size()) > 0) {
                shared++;
            }
        }
        return shared;
    }

    public int newWords(int work) throws IndexOutOfBoundsException {
        Work asked = workOrThrow(work);
        int fresh = 0;
        for (int i = 0; i < asked.script.size(); i++) {
            if (asked.script.isNewAt(0, i) && !now.usedBefore(asked.script.wordAt(i), asked.writer, work)) {
                fresh++;
            }
        }
        return fresh;
    }

    public int widest(int work) throws IndexOutOfBoundsException {
        Work asked = workOrThrow(work);
        int widest = 0;
        for (int i = 1; i < asked.size(); i++) {
            if (asked.widthOf(i) > asked.widthOf(widest)) {
                widest = i;
            }
        }
        return widest;
    }

    public int copiedFrom(int work) throws IndexOutOfBoundsException {
        Work asked = workOrThrow(work);
        int most = 0;
        int source = NONE;
        for (int i = 0; i < now.works; i++) {
            Work other = now.workAt(i);
            if (other != null && other.writer != asked.writer) {
                int copied = asked.linesStandingIn(other);
                if (copied > most) {
                    most = copied;
                    source = i;
                }
            }
        }
        return source;
    }

    public int entry(int entry, int what) throws IndexOutOfBoundsException, IllegalArgumentException {
        if (entry < 0 || entry >= now.ledger.size) {
            throw new IndexOutOfBoundsException("no such entry");
        }
        if (what < 0 || what >= Ledger.PARTS) {
            throw new IllegalArgumentException("no such part of an entry");
        }
        return now.ledger.partOf(entry, what);
    }

    public int booked(int writer, int from, int to) throws IndexOutOfBoundsException {
        checkWriter(writer);
        return now.ledger.sumOf(writer, from, to);
    }

    public int richest() {
        int richest = 0;
        for (int i = 1; i < now.writers; i++) {
            if (now.balanceOf(i) > now.balanceOf(richest)) {
                richest = i;
            }
        }
        return richest;
    }

    public int rank(int writer) throws IndexOutOfBoundsException {
        checkWriter(writer);
        int ahead = 0;
        for (int i = 0; i < now.writers; i++) {
            boolean isRicher = now.balanceOf(i) > now.balanceOf(writer);
            boolean isEqualAndAhead = now.balanceOf(i) == now.balanceOf(writer) && i < writer;
            if (isRicher || isEqualAndAhead) {
                ahead++;
            }
        }
        return ahead;
    }

    public double meanWidth(int work) throws IndexOutOfBoundsException {
        Work asked = workOrThrow(work);
        int sum = 0;
        for (int i = 0; i < asked.size(); i++) {
            sum += asked.widthOf(i);
        }
        return asked.size() == 0 ? 0.0 : (double) sum / (double) asked.size();
    }

    public float caughtShare(int writer) throws IndexOutOfBoundsException {
        checkWriter(writer);
        int lines = now.linesOf(writer, Line.ALL);
        int caught = now.linesOf(writer, Line.CAUGHT_FIRST);
        return lines == 0 ? 0.0f : (float) caught / (float) lines;
    }

    public int linesIf(int work, int measure) throws IndexOutOfBoundsException, IllegalArgumentException {
        Work asked = workOrThrow(work);
        checkValue(MEASURE, measure);
        return asked.script.linesBy(measure);
    }

    public int payIf(int work, int measure) throws IndexOutOfBoundsException, IllegalArgumentException {
        Work asked = workOrThrow(work);
        checkValue(MEASURE, measure);
        return payWith(asked.script, measure);
    }

    public int bestMeasure(int work) throws IndexOutOfBoundsException {
        Work asked = workOrThrow(work);
        int best = Setting.MEASURE.lowest;
        int most = payWith(asked.script, best);
        for (int measure = best + 1; measure <= Setting.MEASURE.highest; measure++) {
            int paid = payWith(asked.script, measure);
            if (paid > most) {
                most = paid;
                best = measure;
            }
        }
        return best;
    }

    public int wouldCount(int writer, int kind, int length)
            throws IndexOutOfBoundsException, IllegalArgumentException {
        checkSubmission(writer, kind, length);
        Script script = Script.read(input, kind, length);
        return script == null ? NONE : judged(script, writer, now.rules, now.works).linesOf(Line.COUNTING);
    }

    public int wouldPay(int writer, int kind, int length)
            throws IndexOutOfBoundsException, IllegalArgumentException {
        checkSubmission(writer, kind, length);
        Script script = Script.read(input, kind, length);
        if (script == null) {
            return 0;
        }
        Work draft = judged(script, writer, now.rules, now.works);
        return draft.payOfCounting() - now.finesFor(draft);
    }

    public int countsIf(int work, int what, int value)
            throws IndexOutOfBoundsException, IllegalArgumentException {
        Work asked = workOrThrow(work);
        checkValue(what, value);
        int[] rules = now.rules.clone();
        put(rules, what, value);
        return judged(asked.script, asked.writer, rules, work).linesOf(Line.COUNTING);
    }

    public int whyNot(int work, int line) throws IndexOutOfBoundsException {
        return now.objectionTo(workOrThrow(work), lineOrThrow(work, line));
    }

    public int hopes(int writer) throws IndexOutOfBoundsException {
        checkWriter(writer);
        if (now.hasLostTooMany(writer)) {
            return 0;
        }
        int hopeful = 0;
        for (int i = 0; i < now.works; i++) {
            Work asked = now.workOf(writer, i);
            if (asked != null && !now.isTooLateFor(asked)) {
                hopeful += asked.caughtWith(now.rule(DISTINCT));
            }
        }
        return hopeful;
    }

    public int longestRun(int work) throws IndexOutOfBoundsException {
        Work asked = workOrThrow(work);
        int longest = 0;
        int run = 0;
        for (int i = 0; i < asked.size(); i++) {
            run = asked.countsAt(i) ? run + 1 : 0;
            longest = Math.max(longest, run);
        }
        return longest;
    }

    public int submit(int writer, int kind, int length)
            throws IndexOutOfBoundsException, IllegalArgumentException {
        checkSubmission(writer, kind, length);
        Script script = Script.read(input, kind, length);
        input.length = 0;
        if (script == null) {
            return WRONG;
        }
        if (now.works >= MOST_WORKS) {
            return FULL;
        }
        history.keep(now);
        return now.handIn(judged(script, writer, now.rules, now.works));
    }

    public int appeal(int work, int line) throws IndexOutOfBoundsException {
        Work asked = workOrThrow(work);
        Line appealed = lineOrThrow(work, line);
        int objection = now.objectionTo(asked, appealed);
        if (objection != 0) {
            return -objection;
        }
        history.keep(now);
        boolean isGranted = appealed.different() >= now.rule(DISTINCT);
        now.replaceWork(work, asked.withState(line, isGranted ? GRANTED : LOST));
        if (isGranted) {
            now.book(asked.writer, GRANT_ENTRY, appealed.pay + now.rule(FINE));
        } else {
            now.book(asked.writer, FEE_ENTRY, -now.rule(FEE));
        }
        return isGranted ? 1 : 0;
    }

    public int payOut(int writer) throws IndexOutOfBoundsException {
        checkWriter(writer);
        history.keep(now);
        int paid = Math.max(0, Math.min(now.balanceOf(writer), now.money));
        now.handOver(writer, PAYOUT_ENTRY, paid);
        return paid;
    }

    public int advance(int writer, int amount)
            throws IndexOutOfBoundsException, IllegalArgumentException, IllegalStateException {
        checkWriter(writer);
        if (amount < 1 || amount > MOST_ADVANCED) {
            throw new IllegalArgumentException("no such advance");
        }
        if (now.money < amount) {
            throw new IllegalStateException("too little money");
        }
        history.keep(now);
        now.handOver(writer, ADVANCE_ENTRY, amount);
        return now.balanceOf(writer);
    }

    public int addWriter() {
        long name = input.wholeWord();
        input.length = 0;
        if (!isName(name) || now.hasWriter(name)) {
            return WRONG;
        }
        if (now.writers >= MOST_WRITERS) {
            return FULL;
        }
        history.keep(now);
        now.enrol(name);
        return now.writers - 1;
    }

    public int endow(int amount) throws IllegalArgumentException {
        if (amount < 1 || amount > MOST_ENDOWED) {
            throw new IllegalArgumentException("no such endowment");
        }
        history.keep(now);
        now.money = Math.min(MOST_MONEY, now.money + amount);
        return now.money;
    }

    public int pass(int days) throws IllegalArgumentException, IllegalStateException {
        if (days < 1 || days > MOST_DAYS) {
            throw new IllegalArgumentException("no such number of days");
        }
        if (now.day + days > LAST_DAY) {
            throw new IllegalStateException("too late a day");
        }
        history.keep(now);
        now.day += days;
        return now.day;
    }

    public int set(int what, int value) throws IllegalArgumentException {
        checkValue(what, value);
        history.keep(now);
        int before = now.rule(what);
        put(now.rules, what, value);
        return before;
    }

    public int undo() throws NoSuchElementException {
        State before = history.takeLatest();
        if (before == null) {
            throw new NoSuchElementException("nothing can be undone");
        }
        now.takeOver(before);
        return history.size;
    }

    public int printLine(int work, int line) throws IndexOutOfBoundsException {
        Line asked = lineOrThrow(work, line);
        output.length = 0;
        for (int i = asked.from; i < asked.to; i++) {
            output.separate();
            output.writeWord(asked.script.wordAt(i));
        }
        return output.length;
    }

    public int printWork(int work) throws IndexOutOfBoundsException {
        Work asked = workOrThrow(work);
        output.length = 0;
        for (int i = 0; i < asked.size(); i++) {
            output.separate();
            output.writeNumber(asked.widthOf(i));
            output.write(letterFor(asked.stateOf(i)));
        }
        return output.length;
    }

    public int printBalances() {
        output.length = 0;
        for (int i = 0; i < now.writers; i++) {
            output.separate();
            output.writeWord(now.nameOf(i));
            output.write('=');
            output.writeNumber(now.balanceOf(i));
        }
        return output.length;
    }

    public int outputByte(int index) {
        return output.signAt(index);
    }

    public int saveState() {
        saved.takeOver(now);
        isSaved = true;
        return now.day;
    }

    public int restoreState() throws NoSuchElementException {
        if (!isSaved) {
            throw new NoSuchElementException("no state is saved");
        }
        now.takeOver(saved);
        history.forget();
        return now.day;
    }

    private void checkWriter(int writer) {
        if (!now.isWriter(writer)) {
            throw new IndexOutOfBoundsException("no such writer");
        }
    }

    private void checkSetting(int what) {
        if (what < 0 || what >= SETTINGS.length) {
            throw new IllegalArgumentException("no such setting");
        }
    }

    private void checkValue(int what, int value) {
        if (!isValue(what, value)) {
            throw new IllegalArgumentException("no such value of the setting");
        }
    }

    private void checkSubmission(int writer, int kind, int length) {
        checkWriter(writer);
        if (kind < PROSE || kind > LIST) {
            throw new IllegalArgumentException("no such kind");
        }
        if (length < 0 || length > MOST_READ || length > input.length) {
            throw new IllegalArgumentException("no such length");
        }
    }

    private Work workOrThrow(int work) {
        Work asked = now.workAt(work);
        if (asked == null) {
            throw new IndexOutOfBoundsException("no such work");
        }
        return asked;
    }

    private Line lineOrThrow(int work, int line) {
        Line asked = workOrThrow(work).lineAt(line);
        if (asked == null) {
            throw new IndexOutOfBoundsException("no such line");
        }
        return asked;
    }

    /** The work that a script would be if it was handed in today, with the first works ahead of it. */
    private Work judged(Script script, int writer, int[] rules, int earlier) {
        Work work = new Work(writer, now.day, script, at(rules, MEASURE), at(rules, RATE + script.kind));
        now.collect(past, writer, earlier);
        for (Line line : work.lines) {
            if (line != null) {
                line.judge(past.reasonAgainst(line, at(rules, STUFF), at(rules, WORN)));
                past.addIfItCounts(line);
            }
        }
        return work;
    }

    private int payWith(Script script, int measure) {
        return script.payBy(measure, now.rule(RATE + script.kind));
    }

    /** How many different words stand in so many lines of a writer that count, or in more. */
    private int wordsInLines(int writer, int least) {
        now.collect(past, writer, now.works);
        int found = 0;
        for (int i = 0; i < now.works; i++) {
            Work work = now.workOf(writer, i);
            for (int j = 0; work != null && j < work.script.size(); j++) {
                long word = work.script.wordAt(j);
                boolean isFirst = work.script.isNewAt(0, j) && !now.usedBefore(word, writer, i);
                found += isFirst && past.linesWith(word) >= least ? 1 : 0;
            }
        }
        return found;
    }

    private static char letterFor(int state) {
        switch (state) {
            case CAUGHT: return 'x';
            case GRANTED: return 'g';
            case LOST: return 'l';
            default: return 'c';
        }
    }

    private static int payFor(int width, int measure, int rate) {
        return 2 * width < measure ? rate / 2 : rate;
    }

    private static int at(int[] row, int index) {
        return index >= 0 && index < row.length ? row[index] : 0;
    }

    private static void put(int[] row, int index, int value) {
        if (index >= 0 && index < row.length) {
            row[index] = value;
        }
    }

    private static boolean isValue(int what, int value) {
        return what >= 0 && what < SETTINGS.length
                && value >= SETTINGS[what].lowest && value <= SETTINGS[what].highest;
    }

    private static int settingNamed(long word) {
        for (int i = 0; i < SETTINGS.length; i++) {
            if (coded(SETTINGS[i].word) == word) {
                return i;
            }
        }
        return NONE;
    }

    private static boolean isName(long word) {
        return word != NO_WORD && lengthOf(word) <= MOST_NAME_LETTERS
                && word != coded("office") && word != coded("writer") && settingNamed(word) == NONE;
    }

    private static boolean isLetter(int sign) {
        return sign >= 'a' && sign <= 'z';
    }

    private static boolean isDigit(int sign) {
        return sign >= '0' && sign <= '9';
    }

    private static boolean isBlank(int sign) {
        return sign == ' ' || sign == '\n';
    }

    /** A word is one number, five bits for a letter, so that two words are the same if their numbers are. */
    private static long withLetter(long word, int letter) {
        return word << LETTER_BITS | (letter - 'a' + 1);
    }

    private static long coded(String word) {
        long code = NO_WORD;
        for (int i = 0; i < word.length(); i++) {
            code = withLetter(code, word.charAt(i));
        }
        return code;
    }

    private static int lengthOf(long word) {
        int length = 0;
        while (length < MOST_LETTERS && word >> LETTER_BITS * length != 0) {
            length++;
        }
        return length;
    }

    /** The settings, in the order of their numbers. */
    private enum Setting {
        MEASURE("measure", 6, 30, 20),
        STUFF("stuff", 2, 9, 3),
        WORN("worn", 1, 99, 4),
        FINE("fine", 0, 99, 2),
        TERM("term", 0, 30, 7),
        DISTINCT("distinct", 1, 9, 3),
        FEE("fee", 0, 99, 1),
        PROSE_RATE("prose", 0, 99, 10),
        VERSE_RATE("verse", 0, 99, 8),
        LIST_RATE("list", 0, 99, 5);

        final String word;
        final int lowest;
        final int highest;
        final int usual;

        Setting(String word, int lowest, int highest, int usual) {
            this.word = word;
            this.lowest = lowest;
            this.highest = highest;
            this.usual = usual;
        }
    }

    /** The input buffer. */
    private static final class Input {
        final byte[] bytes = new byte[MOST_INPUT];
        int length;

        boolean hasRoomForTwenty() {
            return length + 20 <= bytes.length;
        }

        void appendFour(int four) {
            appendByte((byte) (four >> 24));
            appendByte((byte) (four >> 16));
            appendByte((byte) (four >> 8));
            appendByte((byte) four);
        }

        private void appendByte(byte added) {
            if (length >= 0 && length < bytes.length) {
                bytes[length] = added;
                length++;
            }
        }

        /** The byte as a number from 0; NONE where no byte is. */
        int signAt(int index) {
            return index >= 0 && index < length && index < bytes.length ? bytes[index] & 255 : NONE;
        }

        /** The word that the whole content is; NO_WORD if it is none. */
        long wholeWord() {
            if (length > MOST_LETTERS) {
                return NO_WORD;
            }
            long word = NO_WORD;
            for (int i = 0; i < length; i++) {
                if (!isLetter(signAt(i))) {
                    return NO_WORD;
                }
                word = withLetter(word, signAt(i));
            }
            return word;
        }
    }

    /** What was printed last. */
    private static final class Output {
        final byte[] bytes = new byte[MOST_OUTPUT];
        int length;

        int signAt(int index) {
            return index >= 0 && index < length && index < bytes.length ? bytes[index] : NONE;
        }

        void write(int sign) {
            if (length >= 0 && length < bytes.length) {
                bytes[length] = (byte) sign;
                length++;
            }
        }

        void separate() {
            if (length > 0) {
                write(' ');
            }
        }

        void writeWord(long word) {
            for (int i = lengthOf(word) - 1; i >= 0; i--) {
                int letter = (int) (word >> LETTER_BITS * i) & LETTER_MASK;
                write('a' + letter - 1);
            }
        }

        void writeNumber(int number) {
            // long, since the smallest int has no positive counterpart
            long rest = Math.abs((long) number);
            if (number < 0) {
                write('-');
            }
            for (long unit = 1000000000L; unit > 0; unit /= 10) {
                if (rest >= unit || unit == 1) {
                    write('0' + (int) (rest / unit % 10));
                }
            }
        }
    }

    /** Reads a setup text into a draft of the state. */
    private static final class SetupReader {
        static final int END = 0;
        static final int WORD = 1;
        static final int NUMBER = 2;
        static final int SEMICOLON = 3;
        static final int UNFIT = 4;

        final State draft = new State();
        final boolean[] told = new boolean[SETTINGS.length];
        int token;
        int start;
        int end;
        long word;
        int number;
        int error;
        int errorAt;

        boolean read(Input text) {
            begin();
            if (!readOffice(text)) {
                return false;
            }
            // a statement takes a byte at least, so that the end of the text comes first
            for (int i = 0; i <= text.length; i++) {
                next(text);
                if (token == END) {
                    return draft.writers > 0 || fail(TOO_MANY);
                }
                boolean isWriter = token == WORD && word == coded("writer");
                if (!(isWriter ? readWriter(text) : readSetting(text))) {
                    return false;
                }
            }
            return fail(SYNTAX);
        }

        private void begin() {
            draft.begin();
            for (int i = 0; i < told.length; i++) {
                told[i] = false;
            }
            end = 0;
            error = NO_ERROR;
            errorAt = NONE;
        }

        private boolean fail(int code) {
            error = code;
            errorAt = start;
            return false;
        }

        private boolean readOffice(Input text) {
            next(text);
            if (token != WORD || word != coded("office")) {
                return fail(SYNTAX);
            }
            if (!readNumber(text, 0, MOST_MONEY)) {
                return false;
            }
            draft.money = number;
            return readSemicolon(text);
        }

        private boolean readWriter(Input text) {
            if (draft.writers >= MOST_WRITERS) {
                return fail(TOO_MANY);
            }
            next(text);
            if (token != WORD || !isName(word)) {
                return fail(SYNTAX);
            }
            if (draft.hasWriter(word)) {
                return fail(REPEATED);
            }
            draft.enrol(word);
            return readSemicolon(text);
        }

        private boolean readSetting(Input text) {
            int what = token == WORD ? settingNamed(word) : NONE;
            if (what < 0 || what >= told.length || what >= SETTINGS.length) {
                return fail(SYNTAX);
            }
            if (told[what]) {
                return fail(REPEATED);
            }
            told[what] = true;
            if (!readNumber(text, SETTINGS[what].lowest, SETTINGS[what].highest)) {
                return false;
            }
            put(draft.rules, what, number);
            return readSemicolon(text);
        }

        private boolean readNumber(Input text, int lowest, int highest) {
            next(text);
            if (token != NUMBER) {
                return fail(SYNTAX);
            }
            return number >= lowest && number <= highest || fail(OUT_OF_RANGE);
        }

        private boolean readSemicolon(Input text) {
            next(text);
            return token == SEMICOLON || fail(SYNTAX);
        }

        private void next(Input text) {
            start = end;
            while (start < text.length && isBlank(text.signAt(start))) {
                start++;
            }
            int sign = text.signAt(start);
            if (isLetter(sign)) {
                takeWord(text);
            } else if (isDigit(sign)) {
                takeNumber(text);
            } else {
                token = sign == NONE ? END : sign == ';' ? SEMICOLON : UNFIT;
                end = sign == NONE ? start : start + 1;
            }
        }

        private void takeWord(Input text) {
            end = start;
            word = NO_WORD;
            while (end < text.length && isLetter(text.signAt(end))) {
                word = withLetter(word, text.signAt(end));
                end++;
            }
            // a word that is too long becomes NO_WORD, which can stand nowhere
            word = end - start > MOST_LETTERS ? NO_WORD : word;
            token = WORD;
        }

        private void takeNumber(Input text) {
            end = start;
            number = 0;
            while (end < text.length && isDigit(text.signAt(end))) {
                number = 10 * number + text.signAt(end) - '0';
                end++;
            }
            token = end - start > MOST_DIGITS ? UNFIT : NUMBER;
        }
    }

    /** The words of a work as they were read; they stay as they are. */
    private static final class Script {
        final int kind;
        final long[] words;
        /** How many slashes stand ahead of each word: between two words where it differs, a slash stands. */
        final int[] slashes;

        private Script(int kind, long[] words, int[] slashes) {
            this.kind = kind;
            this.words = words;
            this.slashes = slashes;
        }

        /** Reads the first bytes; null if the words cannot be read. */
        static Script read(Input text, int kind, int length) {
            int size = wordsIn(text, kind, length);
            if (size < 1 || size > MOST_WORDS) {
                return null;
            }
            Script script = new Script(kind, new long[size], new int[size]);
            int index = 0;
            int slashes = 0;
            for (int i = 0; i < length; i++) {
                int sign = text.signAt(i);
                if (isLetter(sign)) {
                    script.addLetter(index, sign, slashes);
                    index += isLetter(text.signAt(i + 1)) ? 0 : 1;
                } else if (sign == '/') {
                    slashes++;
                }
            }
            return script;
        }

        /** How many words the first bytes hold; NONE if a byte or a word cannot stand there. */
        private static int wordsIn(Input text, int kind, int length) {
            int words = 0;
            int run = 0;
            for (int i = 0; i < length; i++) {
                int sign = text.signAt(i);
                if (isLetter(sign)) {
                    words += run == 0 ? 1 : 0;
                    run++;
                    if (run > MOST_LETTERS) {
                        return NONE;
                    }
                } else if (isBlank(sign) || sign == '/' && kind == VERSE) {
                    run = 0;
                } else {
                    return NONE;
                }
            }
            return words;
        }

        private void addLetter(int index, int letter, int slashesAhead) {
            if (index >= 0 && index < words.length) {
                words[index] = withLetter(words[index], letter);
                put(slashes, index, slashesAhead);
            }
        }

        int size() {
            return words.length;
        }

        long wordAt(int index) {
            return index >= 0 && index < words.length ? words[index] : NO_WORD;
        }

        private boolean isParted(int index) {
            return at(slashes, index) != at(slashes, index - 1);
        }

        /** How often a word stands between two indices, the second one left out. */
        int times(long word, int from, int to) {
            int times = 0;
            for (int i = Math.max(0, from); i < to && i < words.length; i++) {
                times += words[i] == word ? 1 : 0;
            }
            return times;
        }

        /** Whether the word at an index stands nowhere ahead of it, from another index on. */
        boolean isNewAt(int from, int index) {
            return times(wordAt(index), from, index) == 0;
        }

        int differentBetween(int from, int to) {
            int different = 0;
            for (int i = from; i < to; i++) {
                different += isNewAt(from, i) ? 1 : 0;
            }
            return different;
        }

        int widthBetween(int from, int to) {
            int width = Math.max(0, to - from - 1);
            for (int i = from; i < to; i++) {
                width += lengthOf(wordAt(i));
            }
            return width;
        }

        /** Where the line ends that begins with a word: the index behind its last word. */
        int lineEnd(int from, int measure) {
            int to = from + 1;
            if (kind == LIST) {
                return to;
            }
            int width = lengthOf(wordAt(from));
            while (to < words.length && !isParted(to) && width + 1 + lengthOf(wordAt(to)) <= measure) {
                width += 1 + lengthOf(wordAt(to));
                to++;
            }
            return to;
        }

        int linesBy(int measure) {
            int lines = 0;
            for (int from = 0; from < words.length; from = Math.max(from + 1, lineEnd(from, measure))) {
                lines++;
            }
            return lines;
        }

        int payBy(int measure, int rate) {
            int pay = 0;
            int to = 0;
            for (int from = 0; from < words.length; from = Math.max(from + 1, to)) {
                to = lineEnd(from, measure);
                pay += payFor(widthBetween(from, to), measure, rate);
            }
            return pay;
        }
    }

    /** A line of a work. It is never changed once it was judged, since kept states share it. */
    private static final class Line {
        static final int ALL = 0;
        static final int COUNTING = 1;
        static final int CAUGHT_FIRST = 2;
        static final int BY_APPEAL = 3;
        static final int OF_LOST_APPEAL = 4;

        final Script script;
        final int from;
        final int to;
        final int width;
        final int pay;
        int reason;
        int state;

        Line(Script script, int from, int to, int measure, int rate) {
            this.script = script;
            this.from = from;
            this.to = to;
            width = script.widthBetween(from, to);
            pay = payFor(width, measure, rate);
            reason = NO_REASON;
            state = COUNTS;
        }

        private Line(Line other, int state) {
            script = other.script;
            from = other.from;
            to = other.to;
            width = other.width;
            pay = other.pay;
            reason = other.reason;
            this.state = state;
        }

        Line withState(int otherState) {
            return new Line(this, otherState);
        }

        void judge(int found) {
            reason = found;
            state = found == NO_REASON ? COUNTS : CAUGHT;
        }

        boolean counts() {
            return state == COUNTS || state == GRANTED;
        }

        boolean isOf(int sort) {
            switch (sort) {
                case COUNTING: return counts();
                case CAUGHT_FIRST: return reason != NO_REASON;
                case BY_APPEAL: return state == GRANTED;
                case OF_LOST_APPEAL: return state == LOST;
                default: return true;
            }
        }

        int different() {
            return script.differentBetween(from, to);
        }

        boolean has(long word) {
            return script.times(word, from, to) > 0;
        }

        boolean isStuffed(int often) {
            for (int i = from; i < to; i++) {
                if (script.times(script.wordAt(i), from, to) >= often) {
                    return true;
                }
            }
            return false;
        }

        boolean isLike(Line other) {
            if (to - from != other.to - other.from) {
                return false;
            }
            for (int i = 0; i < to - from; i++) {
                if (script.wordAt(from + i) != other.script.wordAt(other.from + i)) {
                    return false;
                }
            }
            return true;
        }
    }

    /** A work that was handed in, or would be. It is never changed, since kept states share it. */
    private static final class Work {
        final int writer;
        final int day;
        final Script script;
        final Line[] lines;

        Work(int writer, int day, Script script, int measure, int rate) {
            this.writer = writer;
            this.day = day;
            this.script = script;
            lines = new Line[Math.max(0, script.linesBy(measure))];
            int from = 0;
            for (int i = 0; i < lines.length; i++) {
                int to = script.lineEnd(from, measure);
                lines[i] = new Line(script, from, to, measure, rate);
                from = to;
            }
        }

        private Work(Work other, Line[] lines) {
            writer = other.writer;
            day = other.day;
            script = other.script;
            this.lines = lines;
        }

        Work withState(int line, int state) {
            Line[] changed = lines.clone();
            Line old = lineAt(line);
            if (old != null && line < changed.length) {
                changed[line] = old.withState(state);
            }
            return new Work(this, changed);
        }

        int size() {
            return lines.length;
        }

        /** The line of this number; null if there is none. */
        Line lineAt(int number) {
            return number >= 0 && number < lines.length ? lines[number] : null;
        }

        int widthOf(int number) {
            Line line = lineAt(number);
            return line == null ? 0 : line.width;
        }

        int stateOf(int number) {
            Line line = lineAt(number);
            return line == null ? NONE : line.state;
        }

        boolean countsAt(int number) {
            Line line = lineAt(number);
            return line != null && line.counts();
        }

        int linesOf(int sort) {
            int found = 0;
            for (Line line : lines) {
                found += line != null && line.isOf(sort) ? 1 : 0;
            }
            return found;
        }

        int payOfCounting() {
            int pay = 0;
            for (Line line : lines) {
                pay += line != null && line.counts() ? line.pay : 0;
            }
            return pay;
        }

        /** How many lines are caught, without an appeal, that have so many different words or more. */
        int caughtWith(int different) {
            int found = 0;
            for (Line line : lines) {
                found += line != null && line.state == CAUGHT && line.different() >= different ? 1 : 0;
            }
            return found;
        }

        /** The first line that is like this one; NONE if none is. */
        int firstLike(Line asked) {
            for (int i = 0; i < lines.length; i++) {
                if (lines[i] != null && lines[i].isLike(asked)) {
                    return i;
                }
            }
            return NONE;
        }

        int linesStandingIn(Work other) {
            int found = 0;
            for (Line line : lines) {
                found += line != null && other.firstLike(line) != NONE ? 1 : 0;
            }
            return found;
        }
    }

    /** The lines of a writer that count, as far as they are looked at. */
    private static final class Past {
        // a work is judged behind as many works as there can be, too, and its own lines are past for those that follow
        private final Line[] lines = new Line[(MOST_WORKS + 1) * MOST_WORDS];
        private int size;

        void forget() {
            size = 0;
        }

        void addIfItCounts(Line line) {
            if (line.counts() && size >= 0 && size < lines.length) {
                lines[size] = line;
                size++;
            }
        }

        int reasonAgainst(Line line, int stuff, int worn) {
            if (hasLike(line)) {
                return IS_STALE;
            }
            if (line.isStuffed(stuff)) {
                return IS_STUFFED;
            }
            return isWorn(line, worn) ? IS_WORN : NO_REASON;
        }

        private boolean hasLike(Line asked) {
            for (int i = 0; i < size && i < lines.length; i++) {
                if (lines[i] != null && lines[i].isLike(asked)) {
                    return true;
                }
            }
            return false;
        }

        private boolean isWorn(Line line, int often) {
            for (int i = line.from; i < line.to; i++) {
                if (linesWith(line.script.wordAt(i)) < often) {
                    return false;
                }
            }
            return true;
        }

        /** In how many of the lines a word stands. */
        int linesWith(long word) {
            int found = 0;
            for (int i = 0; i < size && i < lines.length; i++) {
                found += lines[i] != null && lines[i].has(word) ? 1 : 0;
            }
            return found;
        }
    }

    /** The latest entries, four numbers for each: day, writer, kind and amount. */
    private static final class Ledger {
        static final int PARTS = 4;

        private final int[] rows = new int[MOST_ENTRIES * PARTS];
        int size;

        void takeOver(Ledger other) {
            System.arraycopy(other.rows, 0, rows, 0, rows.length);
            size = other.size;
        }

        void add(int day, int writer, int kind, int amount) {
            if (size >= MOST_ENTRIES) {
                System.arraycopy(rows, PARTS, rows, 0, rows.length - PARTS);
                size = MOST_ENTRIES - 1;
            }
            put(rows, size * PARTS, day);
            put(rows, size * PARTS + 1, writer);
            put(rows, size * PARTS + 2, kind);
            put(rows, size * PARTS + 3, amount);
            size++;
        }

        int partOf(int entry, int what) {
            return at(rows, entry * PARTS + what);
        }

        int sumOf(int writer, int from, int to) {
            int sum = 0;
            for (int i = 0; i < size; i++) {
                boolean isAsked = partOf(i, 1) == writer && partOf(i, 0) >= from && partOf(i, 0) <= to;
                sum += isAsked ? partOf(i, 3) : 0;
            }
            return sum;
        }
    }

    /** All that changes change: it is kept to be undone and saved as a whole. */
    private static final class State {
        int day;
        int money;
        int writers;
        int works;
        final int[] rules = new int[SETTINGS.length];
        private final long[] names = new long[MOST_WRITERS];
        private final int[] balances = new int[MOST_WRITERS];
        private final int[] paid = new int[MOST_WRITERS];
        private final Work[] handedIn = new Work[MOST_WORKS];
        final Ledger ledger = new Ledger();

        State() {
            begin();
        }

        /** An office without writers. */
        void begin() {
            day = 0;
            money = 0;
            writers = 0;
            works = 0;
            ledger.size = 0;
            for (int i = 0; i < SETTINGS.length; i++) {
                put(rules, i, SETTINGS[i].usual);
            }
        }

        void takeOver(State other) {
            day = other.day;
            money = other.money;
            writers = other.writers;
            works = other.works;
            System.arraycopy(other.rules, 0, rules, 0, rules.length);
            System.arraycopy(other.names, 0, names, 0, names.length);
            System.arraycopy(other.balances, 0, balances, 0, balances.length);
            System.arraycopy(other.paid, 0, paid, 0, paid.length);
            System.arraycopy(other.handedIn, 0, handedIn, 0, handedIn.length);
            ledger.takeOver(other.ledger);
        }

        int rule(int what) {
            return at(rules, what);
        }

        boolean isWriter(int writer) {
            return writer >= 0 && writer < writers;
        }

        boolean hasWriter(long name) {
            for (int i = 0; i < writers; i++) {
                if (nameOf(i) == name) {
                    return true;
                }
            }
            return false;
        }

        long nameOf(int writer) {
            return writer >= 0 && writer < names.length ? names[writer] : NO_WORD;
        }

        int balanceOf(int writer) {
            return at(balances, writer);
        }

        int paidTo(int writer) {
            return at(paid, writer);
        }

        void enrol(long name) {
            if (writers >= 0 && writers < names.length) {
                names[writers] = name;
                put(balances, writers, 0);
                put(paid, writers, 0);
                writers++;
            }
        }

        int owed() {
            int sum = 0;
            for (int i = 0; i < writers; i++) {
                sum += Math.max(0, balanceOf(i));
            }
            return sum;
        }

        /** The work of this number; null if there is none. */
        Work workAt(int number) {
            return number >= 0 && number < works && number < handedIn.length ? handedIn[number] : null;
        }

        /** The work of this number if it is the writer's; null otherwise. */
        Work workOf(int writer, int number) {
            Work work = workAt(number);
            return work != null && work.writer == writer ? work : null;
        }

        int worksOf(int writer) {
            int found = 0;
            for (int i = 0; i < works; i++) {
                found += workOf(writer, i) != null ? 1 : 0;
            }
            return found;
        }

        /** How many lines of a writer, or with NONE of all writers, are of a sort that Line names. */
        int linesOf(int writer, int sort) {
            int found = 0;
            for (int i = 0; i < works; i++) {
                Work work = workAt(i);
                if (work != null && (writer == NONE || work.writer == writer)) {
                    found += work.linesOf(sort);
                }
            }
            return found;
        }

        /** Puts the lines that count, of the writer's ones among the first works, into the past. */
        void collect(Past past, int writer, int earlier) {
            past.forget();
            for (int i = 0; i < earlier; i++) {
                Work work = workOf(writer, i);
                for (int j = 0; work != null && j < work.size(); j++) {
                    Line line = work.lineAt(j);
                    if (line != null) {
                        past.addIfItCounts(line);
                    }
                }
            }
        }

        boolean usedBefore(long word, int writer, int earlier) {
            for (int i = 0; i < earlier; i++) {
                Work work = workOf(writer, i);
                if (work != null && work.script.times(word, 0, work.script.size()) > 0) {
                    return true;
                }
            }
            return false;
        }

        int finesFor(Work work) {
            return rule(FINE) * work.linesOf(Line.CAUGHT_FIRST);
        }

        int handIn(Work work) {
            works++;
            replaceWork(works - 1, work);
            book(work.writer, PAY_ENTRY, work.payOfCounting());
            book(work.writer, FINES_ENTRY, -finesFor(work));
            return works - 1;
        }

        void replaceWork(int number, Work work) {
            if (number >= 0 && number < works && number < handedIn.length) {
                handedIn[number] = work;
            }
        }

        /** Why there can be no appeal for a line; 0 if there can be one. */
        int objectionTo(Work work, Line line) {
            if (line.state != CAUGHT) {
                return 1;
            }
            if (isTooLateFor(work)) {
                return 2;
            }
            return hasLostTooMany(work.writer) ? 3 : 0;
        }

        boolean isTooLateFor(Work work) {
            return day > work.day + rule(TERM);
        }

        boolean hasLostTooMany(int writer) {
            return linesOf(writer, Line.OF_LOST_APPEAL) >= MOST_LOST;
        }

        void book(int writer, int kind, int amount) {
            if (amount != 0) {
                put(balances, writer, balanceOf(writer) + amount);
                ledger.add(day, writer, kind, amount);
            }
        }

        void handOver(int writer, int kind, int amount) {
            money -= amount;
            put(paid, writer, paidTo(writer) + amount);
            book(writer, kind, -amount);
        }
    }

    /** The states ahead of the changes that can be undone, the oldest one first, in a ring. */
    private static final class History {
        private final State[] kept = new State[MOST_CHANGES];
        private int oldest;
        int size;

        History() {
            for (int i = 0; i < kept.length; i++) {
                kept[i] = new State();
            }
        }

        void forget() {
            size = 0;
        }

        void keep(State state) {
            if (size >= MOST_CHANGES) {
                oldest = (oldest + 1) % MOST_CHANGES;
                size = MOST_CHANGES - 1;
            }
            State slot = slotAt(size);
            if (slot != null) {
                slot.takeOver(state);
                size++;
            }
        }

        /** The state ahead of the latest change, which is kept no more; null if there is none. */
        State takeLatest() {
            if (size <= 0) {
                return null;
            }
            size--;
            return slotAt(size);
        }

        private State slotAt(int number) {
            int slot = (oldest + number) % MOST_CHANGES;
            return slot >= 0 && slot < kept.length ? kept[slot] : null;
        }
    }
}
