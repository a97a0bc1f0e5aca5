import java.util.ArrayList;
import java.util.HashMap;
import java.util.LinkedHashSet;
import java.util.List;
import java.util.Map;
import java.util.NoSuchElementException;
import java.util.Set;

/** The document again, told by texts and sets and whole copies: slow, and not built like LineOffice. */
public final class Model {
    static final String[] WORDS = {"measure", "stuff", "worn", "fine", "term", "distinct", "fee", "prose", "verse",
        "list"};
    static final int[] LOW = {6, 2, 1, 0, 0, 1, 0, 0, 0, 0};
    static final int[] HIGH = {30, 9, 99, 99, 30, 9, 99, 99, 99, 99};
    static final int[] USUAL = {20, 3, 4, 2, 7, 3, 1, 10, 8, 5};

    /** Lines are lists of words. */
    static final class Piece {
        int writer, kind, day;
        List<String> words = new ArrayList<>();
        /** For each word of verse, the number of the part between slashes in which it stands. */
        List<Integer> parts = new ArrayList<>();
        List<List<String>> lines = new ArrayList<>();
        List<Integer> reasons = new ArrayList<>();
        List<Integer> pays = new ArrayList<>();
        List<Boolean> granted = new ArrayList<>();
        List<Boolean> lost = new ArrayList<>();

        boolean counts(int i) {
            return reasons.get(i) == 0 || granted.get(i);
        }

        int state(int i) {
            return reasons.get(i) == 0 ? 0 : granted.get(i) ? 2 : lost.get(i) ? 3 : 1;
        }

        int counting() {
            int n = 0;
            for (int i = 0; i < lines.size(); i++) {
                n += counts(i) ? 1 : 0;
            }
            return n;
        }

        Piece copy() {
            Piece p = new Piece();
            p.writer = writer;
            p.kind = kind;
            p.day = day;
            p.words.addAll(words);
            p.parts.addAll(parts);
            p.lines.addAll(lines);
            p.reasons.addAll(reasons);
            p.pays.addAll(pays);
            p.granted.addAll(granted);
            p.lost.addAll(lost);
            return p;
        }
    }

    static final class World {
        int day, money;
        int[] settings = USUAL.clone();
        List<String> names = new ArrayList<>();
        List<Integer> balances = new ArrayList<>();
        List<Integer> paid = new ArrayList<>();
        List<Piece> pieces = new ArrayList<>();
        List<int[]> entries = new ArrayList<>();

        World copy() {
            World w = new World();
            w.day = day;
            w.money = money;
            w.settings = settings.clone();
            w.names.addAll(names);
            w.balances.addAll(balances);
            w.paid.addAll(paid);
            for (Piece p : pieces) {
                w.pieces.add(p.copy());
            }
            w.entries.addAll(entries);
            return w;
        }

        void enrol(String name) {
            names.add(name);
            balances.add(0);
            paid.add(0);
        }
    }

    World w = new World();
    World saved;
    List<World> kept = new ArrayList<>();
    StringBuilder input = new StringBuilder();
    String output = "";
    int code = 0, offset = -1;

    public Model() {
        w.enrol("a");
    }

    // ---- input and setup

    public int appendInput(int a, int b, int c, int d, int e) {
        if (input.length() + 20 > 600) {
            return -1;
        }
        for (int four : new int[] {a, b, c, d, e}) {
            for (int i = 3; i >= 0; i--) {
                input.append((char) (four >>> 8 * i & 255));
            }
        }
        return input.length();
    }

    public boolean truncateInput(int length) {
        if (length < 0 || length > input.length()) {
            return false;
        }
        input.setLength(length);
        return true;
    }

    private String taken() {
        String all = input.toString();
        input.setLength(0);
        return all;
    }

    static final class Fault extends Exception {
        private static final long serialVersionUID = 1;
        final int code, offset;

        Fault(int code, int offset) {
            this.code = code;
            this.offset = offset;
        }
    }

    /** A token as it is met: its text and its place; an empty one at the end; "?" for what belongs to none. */
    private String text;
    private int at, tokenAt;

    private String token() {
        while (at < text.length() && (text.charAt(at) == 32 || text.charAt(at) == 10)) {
            at++;
        }
        tokenAt = at;
        if (at == text.length()) {
            return "";
        }
        String rest = text.substring(at);
        String found = rest.replaceAll("(?s)^([a-z]+|[0-9]+|;).*$", "$1");
        if (!rest.matches("(?s)^([a-z]|[0-9]|;).*$")) {
            at++;
            return "?";
        }
        at += found.length();
        return found;
    }

    private int numberToken(int low, int high) throws Fault {
        String t = token();
        if (!t.matches("[0-9]{1,5}")) {
            throw new Fault(1, tokenAt);
        }
        int n = Integer.parseInt(t);
        if (n < low || n > high) {
            throw new Fault(2, tokenAt);
        }
        return n;
    }

    private void semicolon() throws Fault {
        if (!token().equals(";")) {
            throw new Fault(1, tokenAt);
        }
    }

    private World parsed(String all) throws Fault {
        World x = new World();
        text = all;
        at = 0;
        if (!token().equals("office")) {
            throw new Fault(1, tokenAt);
        }
        x.money = numberToken(0, 99999);
        semicolon();
        Set<String> told = new LinkedHashSet<>();
        for (String t = token(); !t.isEmpty(); t = token()) {
            if (t.equals("writer")) {
                if (x.names.size() == 6) {
                    throw new Fault(4, tokenAt);
                }
                String name = token();
                if (!isName(name)) {
                    throw new Fault(1, tokenAt);
                }
                if (x.names.contains(name)) {
                    throw new Fault(3, tokenAt);
                }
                x.enrol(name);
            } else {
                int what = List.of(WORDS).indexOf(t);
                if (what < 0) {
                    throw new Fault(1, tokenAt);
                }
                if (!told.add(t)) {
                    throw new Fault(3, tokenAt);
                }
                x.settings[what] = numberToken(LOW[what], HIGH[what]);
            }
            semicolon();
        }
        if (x.names.isEmpty()) {
            throw new Fault(4, all.length());
        }
        return x;
    }

    private static boolean isName(String name) {
        return name.matches("[a-z]{1,6}") && !name.equals("office") && !name.equals("writer")
                && !List.of(WORDS).contains(name);
    }

    public int loadOffice() {
        try {
            w = parsed(taken());
        } catch (Fault f) {
            code = f.code;
            offset = f.offset;
            return -1;
        }
        code = 0;
        offset = -1;
        kept.clear();
        saved = null;
        return w.names.size();
    }

    public int errorCode() {
        return code;
    }

    public int errorOffset() {
        return offset;
    }

    // ---- what is refused

    private void writerMust(int writer) {
        if (writer < 0 || writer >= w.names.size()) {
            throw new IndexOutOfBoundsException();
        }
    }

    private Piece piece(int work) {
        if (work < 0 || work >= w.pieces.size()) {
            throw new IndexOutOfBoundsException();
        }
        return w.pieces.get(work);
    }

    private Piece piece(int work, int line) {
        Piece p = piece(work);
        if (line < 0 || line >= p.lines.size()) {
            throw new IndexOutOfBoundsException();
        }
        return p;
    }

    private static void must(boolean is) {
        if (!is) {
            throw new IllegalArgumentException();
        }
    }

    private static void valueMust(int what, int value) {
        must(what >= 0 && what <= 9);
        must(value >= LOW[what] && value <= HIGH[what]);
    }

    // ---- lines and padding

    private static int width(List<String> line) {
        return String.join(" ", line).length();
    }

    private static List<List<String>> broken(Piece p, int measure) {
        List<List<String>> lines = new ArrayList<>();
        for (int i = 0; i < p.words.size(); i++) {
            List<String> last = lines.isEmpty() ? null : lines.get(lines.size() - 1);
            boolean joins = last != null && p.kind != 2 && p.parts.get(i).equals(p.parts.get(i - 1))
                    && width(last) + 1 + p.words.get(i).length() <= measure;
            if (!joins) {
                last = new ArrayList<>();
                lines.add(last);
            }
            last.add(p.words.get(i));
        }
        return lines;
    }

    private static int pay(List<String> line, int measure, int rate) {
        return 2 * width(line) < measure ? rate / 2 : rate;
    }

    private Piece read(String text, int writer, int kind) {
        Piece p = new Piece();
        p.writer = writer;
        p.kind = kind;
        p.day = w.day;
        if (!text.matches(kind == 1 ? "[a-z \\n/]*" : "[a-z \\n]*")) {
            return null;
        }
        String[] parts = text.split("/");
        for (int i = 0; i < parts.length; i++) {
            for (String word : parts[i].split("[ \\n]+")) {
                if (!word.isEmpty()) {
                    if (word.length() > 12) {
                        return null;
                    }
                    p.words.add(word);
                    p.parts.add(i);
                }
            }
        }
        return p.words.isEmpty() || p.words.size() > 60 ? null : p;
    }

    /** Breaks and judges a piece behind the first works, by these settings. */
    private void judge(Piece p, int[] settings, int earlier) {
        List<List<String>> past = new ArrayList<>();
        for (int i = 0; i < earlier; i++) {
            Piece q = w.pieces.get(i);
            for (int j = 0; j < q.lines.size() && q.writer == p.writer; j++) {
                if (q.counts(j)) {
                    past.add(q.lines.get(j));
                }
            }
        }
        p.lines = broken(p, settings[0]);
        for (List<String> line : p.lines) {
            int reason = 0;
            if (past.contains(line)) {
                reason = 1;
            } else if (most(line) >= settings[1]) {
                reason = 2;
            } else if (least(line, past) >= settings[2]) {
                reason = 3;
            } else {
                past.add(line);
            }
            p.reasons.add(reason);
            p.pays.add(pay(line, settings[0], settings[7 + p.kind]));
            p.granted.add(false);
            p.lost.add(false);
        }
    }

    private static int most(List<String> line) {
        int most = 0;
        for (String word : line) {
            most = Math.max(most, java.util.Collections.frequency(line, word));
        }
        return most;
    }

    private static int least(List<String> line, List<List<String>> past) {
        int least = Integer.MAX_VALUE;
        for (String word : line) {
            int n = 0;
            for (List<String> one : past) {
                n += one.contains(word) ? 1 : 0;
            }
            least = Math.min(least, n);
        }
        return least;
    }

    /** For each word that the writer used, in the order of its first standing, the lines that count with it. */
    private Map<String, Integer> lineCounts(int writer) {
        Map<String, Integer> counts = new java.util.LinkedHashMap<>();
        for (Piece p : w.pieces) {
            if (p.writer == writer) {
                for (String word : p.words) {
                    counts.putIfAbsent(word, 0);
                }
            }
        }
        for (Piece p : w.pieces) {
            for (int i = 0; i < p.lines.size() && p.writer == writer; i++) {
                if (p.counts(i)) {
                    for (String word : new LinkedHashSet<>(p.lines.get(i))) {
                        counts.merge(word, 1, Integer::sum);
                    }
                }
            }
        }
        return counts;
    }

    // ---- questions

    public int count(int what) {
        must(what >= 0 && what <= 8);
        int lines = 0, counting = 0, owed = 0;
        for (Piece p : w.pieces) {
            lines += p.lines.size();
            counting += p.counting();
        }
        for (int b : w.balances) {
            owed += b > 0 ? b : 0;
        }
        return new int[] {w.names.size(), w.pieces.size(), lines, counting, w.day, w.money, w.entries.size(), owed,
            kept.size()}[what];
    }

    public int setting(int what) {
        must(what >= 0 && what <= 9);
        return w.settings[what];
    }

    public int writer(int writer, int what) {
        writerMust(writer);
        must(what >= 0 && what <= 9);
        int[] n = new int[10];
        n[0] = w.balances.get(writer);
        n[7] = w.paid.get(writer);
        for (Piece p : w.pieces) {
            if (p.writer == writer) {
                n[1]++;
                n[2] += p.lines.size();
                n[3] += p.counting();
                for (int i = 0; i < p.lines.size(); i++) {
                    n[4] += p.reasons.get(i) > 0 ? 1 : 0;
                    n[5] += p.granted.get(i) ? 1 : 0;
                    n[6] += p.lost.get(i) ? 1 : 0;
                }
            }
        }
        for (int lines : lineCounts(writer).values()) {
            n[8] += lines > 0 ? 1 : 0;
            n[9] += lines >= w.settings[2] ? 1 : 0;
        }
        return n[what];
    }

    public int work(int work, int what) {
        Piece p = piece(work);
        must(what >= 0 && what <= 7);
        int pays = 0;
        for (int i = 0; i < p.lines.size(); i++) {
            pays += p.counts(i) ? p.pays.get(i) : 0;
        }
        return new int[] {p.writer, p.kind, p.day, p.words.size(), p.lines.size(), p.counting(), pays,
            new LinkedHashSet<>(p.words).size()}[what];
    }

    public int line(int work, int line, int what) {
        Piece p = piece(work, line);
        must(what >= 0 && what <= 6);
        List<String> words = p.lines.get(line);
        int first = 0;
        for (int i = 0; i < line; i++) {
            first += p.lines.get(i).size();
        }
        return new int[] {first, words.size(), width(words), p.state(line), p.reasons.get(line), p.pays.get(line),
            new LinkedHashSet<>(words).size()}[what];
    }

    public int likeLine(int work, int line) {
        Piece p = piece(work, line);
        for (int i = 0; i < w.pieces.size(); i++) {
            for (int j = 0; j < w.pieces.get(i).lines.size(); j++) {
                if (w.pieces.get(i).writer == p.writer && w.pieces.get(i).lines.get(j).equals(p.lines.get(line))) {
                    return i == work && j == line ? -1 : 100 * i + j;
                }
            }
        }
        return -99;
    }

    public int letters(int work, int word) {
        Piece p = piece(work);
        if (word < 0 || word >= p.words.size()) {
            throw new IndexOutOfBoundsException();
        }
        return p.words.get(word).length();
    }

    public int uses(int writer) {
        writerMust(writer);
        return lineCounts(writer).getOrDefault(taken(), 0);
    }

    public int favourite(int writer) {
        writerMust(writer);
        String best = "";
        int most = 0;
        for (Map.Entry<String, Integer> e : lineCounts(writer).entrySet()) {
            if (e.getValue() > most) {
                most = e.getValue();
                best = e.getKey();
            }
        }
        for (int i = 0; i < w.pieces.size(); i++) {
            Piece p = w.pieces.get(i);
            if (p.writer == writer && p.words.contains(best)) {
                return 100 * i + p.words.indexOf(best);
            }
        }
        return -1;
    }

    public int common(int work, int other) {
        Set<String> both = new LinkedHashSet<>(piece(work).words);
        both.retainAll(piece(other).words);
        return both.size();
    }

    public int newWords(int work) {
        Set<String> fresh = new LinkedHashSet<>(piece(work).words);
        for (int i = 0; i < work; i++) {
            if (w.pieces.get(i).writer == piece(work).writer) {
                fresh.removeAll(w.pieces.get(i).words);
            }
        }
        return fresh.size();
    }

    public int widest(int work) {
        Piece p = piece(work);
        int best = 0;
        for (int i = 0; i < p.lines.size(); i++) {
            if (width(p.lines.get(i)) > width(p.lines.get(best))) {
                best = i;
            }
        }
        return best;
    }

    public int copiedFrom(int work) {
        Piece p = piece(work);
        Map<Integer, Integer> copied = new HashMap<>();
        for (int i = 0; i < w.pieces.size(); i++) {
            for (List<String> line : p.lines) {
                if (w.pieces.get(i).writer != p.writer && w.pieces.get(i).lines.contains(line)) {
                    copied.merge(i, 1, Integer::sum);
                }
            }
        }
        int best = -1;
        for (int i = 0; i < w.pieces.size(); i++) {
            if (copied.getOrDefault(i, 0) > copied.getOrDefault(best, 0)) {
                best = i;
            }
        }
        return best;
    }

    public int entry(int entry, int what) {
        if (entry < 0 || entry >= w.entries.size()) {
            throw new IndexOutOfBoundsException();
        }
        must(what >= 0 && what <= 3);
        return w.entries.get(entry)[what];
    }

    public int booked(int writer, int from, int to) {
        writerMust(writer);
        int sum = 0;
        for (int[] e : w.entries) {
            sum += e[1] == writer && e[0] >= from && e[0] <= to ? e[3] : 0;
        }
        return sum;
    }

    public int richest() {
        for (int i = 0; i < w.names.size(); i++) {
            if (rank(i) == 0) {
                return i;
            }
        }
        return -99;
    }

    public int rank(int writer) {
        writerMust(writer);
        int n = 0;
        for (int i = 0; i < w.names.size(); i++) {
            int order = Integer.compare(w.balances.get(i), w.balances.get(writer));
            n += order > 0 || order == 0 && i < writer ? 1 : 0;
        }
        return n;
    }

    public double meanWidth(int work) {
        double sum = 0;
        for (List<String> line : piece(work).lines) {
            sum += width(line);
        }
        return sum / piece(work).lines.size();
    }

    public float caughtShare(int writer) {
        writerMust(writer);
        return writer(writer, 2) == 0 ? 0 : (float) writer(writer, 4) / writer(writer, 2);
    }

    public int linesIf(int work, int measure) {
        piece(work);
        valueMust(0, measure);
        return broken(piece(work), measure).size();
    }

    public int payIf(int work, int measure) {
        Piece p = piece(work);
        valueMust(0, measure);
        int sum = 0;
        for (List<String> line : broken(p, measure)) {
            sum += pay(line, measure, w.settings[7 + p.kind]);
        }
        return sum;
    }

    public int bestMeasure(int work) {
        piece(work);
        int best = 30;
        for (int m = 29; m >= 6; m--) {
            best = payIf(work, m) >= payIf(work, best) ? m : best;
        }
        return best;
    }

    private Piece would(int writer, int kind, int length) {
        writerMust(writer);
        must(kind >= 0 && kind <= 2);
        must(length >= 0 && length <= 500 && length <= input.length());
        Piece p = read(input.substring(0, length), writer, kind);
        if (p != null) {
            judge(p, w.settings, w.pieces.size());
        }
        return p;
    }

    private int gain(Piece p) {
        int sum = 0;
        for (int i = 0; i < p.lines.size(); i++) {
            sum += p.counts(i) ? p.pays.get(i) : -w.settings[3];
        }
        return sum;
    }

    public int wouldCount(int writer, int kind, int length) {
        Piece p = would(writer, kind, length);
        return p == null ? -1 : p.counting();
    }

    public int wouldPay(int writer, int kind, int length) {
        Piece p = would(writer, kind, length);
        return p == null ? 0 : gain(p);
    }

    public int countsIf(int work, int what, int value) {
        Piece p = piece(work);
        valueMust(what, value);
        Piece anew = new Piece();
        anew.writer = p.writer;
        anew.kind = p.kind;
        anew.words = p.words;
        anew.parts = p.parts;
        int[] settings = w.settings.clone();
        settings[what] = value;
        judge(anew, settings, work);
        return anew.counting();
    }

    public int whyNot(int work, int line) {
        Piece p = piece(work, line);
        if (p.state(line) != 1) {
            return 1;
        }
        return w.day - p.day > w.settings[4] ? 2 : writer(p.writer, 6) > 2 ? 3 : 0;
    }

    public int hopes(int writer) {
        writerMust(writer);
        int n = 0;
        for (int i = 0; i < w.pieces.size(); i++) {
            for (int j = 0; j < w.pieces.get(i).lines.size(); j++) {
                boolean own = w.pieces.get(i).writer == writer;
                n += own && whyNot(i, j) == 0 && line(i, j, 6) >= w.settings[5] ? 1 : 0;
            }
        }
        return n;
    }

    public int longestRun(int work) {
        Piece p = piece(work);
        StringBuilder row = new StringBuilder();
        for (int i = 0; i < p.lines.size(); i++) {
            row.append(p.counts(i) ? 'c' : ' ');
        }
        int longest = 0;
        for (String run : row.toString().split(" ")) {
            longest = Math.max(longest, run.length());
        }
        return longest;
    }

    // ---- changes

    private void keep() {
        kept.add(w.copy());
        if (kept.size() > 8) {
            kept.remove(0);
        }
    }

    private void book(int writer, int kind, int amount) {
        w.balances.set(writer, w.balances.get(writer) + amount);
        if (amount != 0) {
            w.entries.add(new int[] {w.day, writer, kind, amount});
            if (w.entries.size() > 30) {
                w.entries.remove(0);
            }
        }
    }

    public int submit(int writer, int kind, int length) {
        Piece p = would(writer, kind, length);
        taken();
        if (p == null) {
            return -2;
        }
        if (w.pieces.size() == 12) {
            return -3;
        }
        keep();
        w.pieces.add(p);
        int fines = 0, pays = 0;
        for (int i = 0; i < p.lines.size(); i++) {
            fines += p.counts(i) ? 0 : w.settings[3];
            pays += p.counts(i) ? p.pays.get(i) : 0;
        }
        book(writer, 0, pays);
        book(writer, 1, -fines);
        return w.pieces.size() - 1;
    }

    public int appeal(int work, int line) {
        int why = whyNot(work, line);
        if (why > 0) {
            return -why;
        }
        keep();
        Piece p = piece(work);
        if (line(work, line, 6) >= w.settings[5]) {
            p.granted.set(line, true);
            book(p.writer, 2, p.pays.get(line) + w.settings[3]);
            return 1;
        }
        p.lost.set(line, true);
        book(p.writer, 3, -w.settings[6]);
        return 0;
    }

    private void hand(int writer, int kind, int amount) {
        w.money -= amount;
        w.paid.set(writer, w.paid.get(writer) + amount);
        book(writer, kind, -amount);
    }

    public int payOut(int writer) {
        writerMust(writer);
        keep();
        int sum = Math.min(w.money, w.balances.get(writer));
        sum = sum < 0 ? 0 : sum;
        hand(writer, 4, sum);
        return sum;
    }

    public int advance(int writer, int amount) {
        writerMust(writer);
        must(amount >= 1 && amount <= 999);
        if (w.money < amount) {
            throw new IllegalStateException();
        }
        keep();
        hand(writer, 5, amount);
        return w.balances.get(writer);
    }

    public int addWriter() {
        String name = taken();
        if (!isName(name) || w.names.contains(name)) {
            return -2;
        }
        if (w.names.size() == 6) {
            return -3;
        }
        keep();
        w.enrol(name);
        return w.names.size() - 1;
    }

    public int endow(int amount) {
        must(amount >= 1 && amount <= 9999);
        keep();
        w.money += amount;
        if (w.money > 99999) {
            w.money = 99999;
        }
        return w.money;
    }

    public int pass(int days) {
        must(days >= 1 && days <= 99);
        if (w.day + days > 9999) {
            throw new IllegalStateException();
        }
        keep();
        return w.day += days;
    }

    public int set(int what, int value) {
        valueMust(what, value);
        keep();
        int before = w.settings[what];
        w.settings[what] = value;
        return before;
    }

    public int undo() {
        if (kept.isEmpty()) {
            throw new NoSuchElementException();
        }
        w = kept.remove(kept.size() - 1);
        return kept.size();
    }

    // ---- output and saved state

    public int printLine(int work, int line) {
        output = String.join(" ", piece(work, line).lines.get(line));
        return output.length();
    }

    public int printWork(int work) {
        List<String> all = new ArrayList<>();
        for (int i = 0; i < piece(work).lines.size(); i++) {
            all.add(width(piece(work).lines.get(i)) + "" + "cxgl".charAt(piece(work).state(i)));
        }
        output = String.join(" ", all);
        return output.length();
    }

    public int printBalances() {
        List<String> all = new ArrayList<>();
        for (int i = 0; i < w.names.size(); i++) {
            all.add(w.names.get(i) + "=" + w.balances.get(i));
        }
        output = String.join(" ", all);
        return output.length();
    }

    public int outputByte(int index) {
        return index < 0 || index >= output.length() ? -1 : output.charAt(index);
    }

    public int saveState() {
        saved = w.copy();
        return w.day;
    }

    public int restoreState() {
        if (saved == null) {
            throw new NoSuchElementException();
        }
        w = saved.copy();
        kept.clear();
        return w.day;
    }
}
