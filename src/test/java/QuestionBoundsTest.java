import java.util.function.IntUnaryOperator;

/** Each sentence of promises 7 to 34 that names a boundary case: a test of its own for each. */
public final class QuestionBoundsTest {
    private static final int PROSE = LineOffice.PROSE;
    private static final int VERSE = LineOffice.VERSE;
    private static final int LIST = LineOffice.LIST;
    private static final int NONE = LineOffice.NONE;
    private static final int LEAST = Integer.MIN_VALUE;
    private static final int GREATEST = Integer.MAX_VALUE;
    private static final int[] LOWEST = {6, 2, 1, 0, 0, 1, 0, 0, 0, 0};
    private static final int[] HIGHEST = {30, 9, 99, 99, 30, 9, 99, 99, 99, 99};

    /** The numbers from the lowest to the highest one are taken, those beside them throw this. */
    private static void taken(String what, int lowest, int highest, Class<? extends RuntimeException> due,
            IntUnaryOperator asked) {
        for (int i = lowest; i <= highest; i++) {
            asked.applyAsInt(i);
        }
        for (int bad : new int[] {LEAST, lowest - 1, highest + 1, GREATEST}) {
            Check.throwing(what + " " + bad, due, () -> asked.applyAsInt(bad));
        }
    }

    private static void whats(String what, int above, IntUnaryOperator asked) {
        taken(what, 0, above - 1, Check.ARGUMENT, asked);
    }

    /** The writers, works, lines, words or entries are numbered from 0; there may be none. */
    private static void numbered(String what, int above, IntUnaryOperator asked) {
        taken(what, 0, above - 1, Check.INDEX, asked);
    }

    /** What is asked of a writer, where there are one, two and six of them. */
    private static void writers(String what, java.util.function.BiFunction<LineOffice, Integer, Object> asked) {
        numbered(what + " of one", 1, i -> asked.apply(new LineOffice(), i).hashCode());
        LineOffice x = Check.office("");
        numbered(what + " of two", 2, i -> asked.apply(x, i).hashCode());
        for (String name : new String[] {"c", "d", "e", "f"}) {
            Check.add(x, name);
        }
        numbered(what + " of six", 6, i -> asked.apply(x, i).hashCode());
        x.undo();
        numbered(what + " of five, a sixth one undone", 5, i -> asked.apply(x, i).hashCode());
    }

    /** What is asked of a work, where there are none, one and twelve of them. */
    private static void works(String what, java.util.function.BiFunction<LineOffice, Integer, Object> asked) {
        numbered(what + " of none", 0, i -> asked.apply(new LineOffice(), i).hashCode());
        LineOffice x = Check.office("");
        Check.submit(x, 1, PROSE, "a");
        numbered(what + " of one", 1, i -> asked.apply(x, i).hashCode());
        for (int i = 1; i < 12; i++) {
            Check.submit(x, i % 2, LIST, "a b");
        }
        numbered(what + " of twelve", 12, i -> asked.apply(x, i).hashCode());
        x.undo();
        numbered(what + " of eleven, a twelfth one undone", 11, i -> asked.apply(x, i).hashCode());
    }

    /** What is asked of a line, where there are one and sixty of them; the work is looked at first. */
    private static void lines(String what, java.util.function.BiFunction<LineOffice, int[], Integer> asked) {
        works(what, (x, i) -> asked.apply(x, new int[] {i, 0}));
        LineOffice x = new LineOffice();
        Check.submit(x, 0, PROSE, "a");
        Check.submit(x, 0, LIST, Check.words(0, 60, " "));
        numbered(what + ", of one line", 1, i -> asked.apply(x, new int[] {0, i}));
        numbered(what + ", of sixty lines", 60, i -> asked.apply(x, new int[] {1, i}));
    }

    /** Six writers and, of the first one, twelve lists of sixty words that are all different. */
    private static LineOffice full() {
        LineOffice x = new LineOffice();
        Check.load(x, "office 99999;writer a;writer b;writer c;writer d;writer e;writer f;stuff 2;worn 2;list 99;");
        for (int i = 0; i < 12; i++) {
            Check.submit(x, 0, LIST, Check.words(60 * i, 60, " "));
        }
        return x;
    }

    private static LineOffice of(String settings, int kind, String... texts) {
        LineOffice x = Check.office(settings);
        for (String text : texts) {
            Check.submit(x, 0, kind, text);
        }
        return x;
    }

    private static void row(String what, IntUnaryOperator asked, int... due) {
        for (int i = 0; i < due.length; i++) {
            Check.same(what + " " + i, asked.applyAsInt(i), due[i]);
        }
    }

    // Promise 7
    private static void count() {
        whats("count", 9, new LineOffice()::count);
        row("count of a new one", new LineOffice()::count, 1, 0, 0, 0, 0, 0, 0, 0, 0);
        LineOffice x = full();
        for (int i = 1; i <= 18; i++) {
            x.advance(5, 1);
        }
        for (int i = 0; i < 101; i++) {
            x.pass(99);
        }
        row("count of a full one", x::count, 6, 12, 720, 720, 9999, 99999 - 18, 30, 720 * 49, 8);
        x.endow(18);
        Check.same("the most MONEY", x.count(5), 99999);
        Check.same("the first of 30 entries", x.entry(0, 2), 0);
    }

    // Promise 7: "those that count now"
    private static void countOfLinesThatCountNow() {
        LineOffice x = of("stuff 2;distinct 2;", VERSE, "a a/b b c");
        Check.same("none", x.count(3), 0);
        x.appeal(0, 0);
        Check.same("none by an appeal that is lost", x.count(3), 0);
        x.appeal(0, 1);
        Check.same("one by an appeal that is granted", x.count(3), 1);
        Check.same("of two", x.count(2), 2);
    }

    // Promise 7: "the sum of all balances above 0"
    private static void sumOfBalancesAbove0() {
        LineOffice x = of("measure 30;prose 2;", PROSE, "a");
        Check.same("1 and 0", x.count(7), 1);
        x.advance(1, 5);
        Check.same("1 and -5", x.count(7), 1);
        Check.submit(x, 1, PROSE, "fifteen letters");
        Check.same("1 and -3", x.count(7), 1);
        x.set(7, 12);
        Check.submit(x, 1, PROSE, "sixteen letterss");
        Check.same("1 and 9", x.count(7), 10);
        x.advance(0, 1);
        Check.same("0 and 9", x.count(7), 9);
        x.advance(1, 10);
        Check.same("0 and -1", x.count(7), 0);
    }

    // Promise 8
    private static void setting() {
        whats("setting", 10, new LineOffice()::setting);
        LineOffice x = new LineOffice();
        for (int i = 0; i < 10; i++) {
            x.set(i, LOWEST[i]);
            Check.same("lowest " + i, x.setting(i), LOWEST[i]);
            x.set(i, HIGHEST[i]);
            Check.same("highest " + i, x.setting(i), HIGHEST[i]);
        }
    }

    // Promise 9
    private static void writer() {
        whats("writer", 10, i -> new LineOffice().writer(0, i));
        writers("writer", (x, i) -> x.writer(i, 9));
        row("without works", i -> new LineOffice().writer(0, i), 0, 0, 0, 0, 0, 0, 0, 0, 0, 0);
        LineOffice x = of("stuff 2;distinct 9;fine 0;fee 0;", VERSE, "a a/a a");
        x.appeal(0, 0);
        row("where no line counts", i -> x.writer(0, i), 0, 1, 2, 0, 2, 0, 1, 0, 0, 0);
        row("the other one", i -> x.writer(1, i), 0, 0, 0, 0, 0, 0, 0, 0, 0, 0);
        LineOffice y = full();
        row("a full one", i -> y.writer(0, i), 720 * 49, 12, 720, 720, 0, 0, 0, 0, 720, 0);
    }

    // Promise 9: "those that were caught as they were handed in"
    private static void caughtAsTheyWereHandedIn() {
        LineOffice x = of("stuff 2;distinct 1;", VERSE, "a a/b");
        x.appeal(0, 0);
        Check.same("though it counts now", x.writer(0, 4), 1);
        Check.same("it counts now", x.writer(0, 3), 2);
        Check.same("granted", x.writer(0, 5), 1);
        Check.same("not lost", x.writer(0, 6), 0);
    }

    // Promise 9: "different words that stand in WORN (of now) such lines or more"
    private static void wordsInWornLines() {
        LineOffice x = of("measure 30;stuff 2;distinct 1;worn 9;", VERSE, "a b/a c/a d/b e/b b c", "a f");
        int[] due = {6, 2, 1, 1, 0};
        for (int worn = 1; worn <= 5; worn++) {
            x.set(2, worn);
            Check.same("words in " + worn + " lines", x.writer(0, 9), due[worn - 1]);
        }
        x.appeal(0, 4);
        x.set(2, 3);
        Check.same("with a line that counts by an appeal", x.writer(0, 9), 2);
    }

    // Promise 10
    private static void work() {
        LineOffice x = of("", PROSE, "a");
        whats("work", 8, i -> x.work(0, i));
        works("work", (y, i) -> y.work(i, 0));
        row("a work of one word", i -> x.work(0, i), 0, PROSE, 0, 1, 1, 1, 5, 1);
        LineOffice y = of("stuff 2;distinct 1;verse 7;fine 0;", VERSE, "a a/b b b b b b b b");
        y.pass(3);
        Check.submit(y, 1, LIST, Check.words(0, 59, " ") + "aaa");
        row("a work of which no line counts", i -> y.work(0, i), 0, VERSE, 0, 10, 2, 0, 0, 2);
        row("a work of sixty words", i -> y.work(1, i), 1, LIST, 3, 60, 60, 59, 59 * 2, 59);
        y.appeal(0, 1);
        row("one counts now", i -> y.work(0, i), 0, VERSE, 0, 10, 2, 1, 7, 2);
    }

    // Promise 11
    private static void line() {
        LineOffice x = of("measure 6;stuff 2;distinct 2;", VERSE, "abcdefghijkl b/c c/d d e");
        whats("line", 7, i -> x.line(0, 0, i));
        lines("line", (y, i) -> y.line(i[0], i[1], 0));
        row("wider than MEASURE", i -> x.line(0, 0, i), 0, 1, 12, 0, 0, 8, 1);
        row("less than half of it", i -> x.line(0, 1, i), 1, 1, 1, 0, 0, 4, 1);
        row("caught", i -> x.line(0, 2, i), 2, 2, 3, 1, 2, 8, 1);
        x.appeal(0, 2);
        x.appeal(0, 3);
        row("lost", i -> x.line(0, 2, i), 2, 2, 3, 3, 2, 8, 1);
        row("granted", i -> x.line(0, 3, i), 4, 3, 5, 2, 2, 8, 2);
        LineOffice y = full();
        row("the last of 720", i -> y.line(11, 59, i), 59, 1, 3, 0, 0, 49, 1);
    }

    // Promise 12: "Returns 100 times its work plus its number; NONE if it is the line itself."
    private static void likeLine() {
        lines("likeLine", (x, i) -> x.likeLine(i[0], i[1]));
        LineOffice x = of("stuff 9;worn 99;", LIST, "a b a", "b c");
        Check.submit(x, 1, LIST, "c a c");
        Check.submit(x, 0, LIST, "c d a");
        int[][] due = {{NONE, NONE, 0}, {1, NONE}, {NONE, NONE, 200}, {101, NONE, 0}};
        for (int work = 0; work < due.length; work++) {
            int asked = work;
            row("likeLine of work " + work, i -> x.likeLine(asked, i), due[work]);
        }
        LineOffice y = full();
        y.undo();
        Check.submit(y, 0, LIST, Check.words(660, 58, " ") + "zzz zzz");
        Check.same("the last line is like the one ahead of it", y.likeLine(11, 59), 1158);
        Check.same("which is like none", y.likeLine(11, 58), NONE);
        y.undo();
        Check.submit(y, 0, LIST, Check.words(660, 59, " ") + "ayo");
        Check.same("the last line is like one of another work", y.likeLine(11, 59), 1000 + 38);
        y.undo();
        Check.submit(y, 0, LIST, Check.words(660, 59, " ") + "aaa");
        Check.same("the last line is like the first one", y.likeLine(11, 59), 0);
    }

    private static void likeLineOfOtherKinds() {
        LineOffice x = of("", LIST, "a b");
        Check.submit(x, 0, PROSE, "a b");
        Check.submit(x, 0, VERSE, "c/b/a b");
        row("of other kinds", i -> x.likeLine(2, i), NONE, 1, 100);
    }

    // Promise 12: "by works, then by lines"
    private static void likeLineIsTheFirst() {
        LineOffice x = of("stuff 9;worn 99;", LIST, "c b", "b a a", "a a b", "a b");
        row("of works that have it, and of lines of one", i -> x.likeLine(3, i), 101, 1);
        row("of works that have it", i -> x.likeLine(2, i), 101, 101, 1);
    }

    // Promise 12: "whether it counts or not"
    private static void likeLineOfCaughtOnes() {
        LineOffice x = of("stuff 2;worn 99;", VERSE, "a a/a a", "a a");
        row("caught ones", i -> x.likeLine(0, i), NONE, 0);
        Check.same("caught one", x.likeLine(1, 0), 0);
    }

    // Promise 13
    private static void letters() {
        works("letters", (x, i) -> x.letters(i, 0));
        LineOffice x = of("", PROSE, "a", "abcdefghijkl ab", Check.words(0, 60, "\n"));
        numbered("letters of one word", 1, i -> x.letters(0, i));
        numbered("letters of two words", 2, i -> x.letters(1, i));
        numbered("letters of sixty words", 60, i -> x.letters(2, i));
        row("letters", i -> x.letters(1, i), 12, 2);
        Check.same("letters of one", x.letters(0, 0), 1);
        Check.throwing("no such work and no such word", Check.INDEX, () -> x.letters(3, 60));
    }

    // Promise 14: "a word, which is the whole content of the input buffer, byte by byte; the buffer is empty
    // afterwards", "0 if the content is no word"
    private static void uses() {
        writers("uses", LineOffice::uses);
        LineOffice x = of("measure 30;stuff 9;worn 99;", VERSE, "a b/abcdefghijkl a/a a a");
        Check.same("in three lines", Check.uses(x, 0, "a"), 3);
        Check.same("in one line", Check.uses(x, 0, "abcdefghijkl"), 1);
        Check.same("in none", Check.uses(x, 0, "c"), 0);
        for (String text : new String[] {"", " ", "a ", " a", "a b", "a\n", "A", "a/", "a;", "a1", "abcdefghijkla",
            "abcdefghijklabcdefghijkl", "a" + (char) 0, "a" + (char) 225}) {
            Check.same("no word: " + text, Check.uses(x, 0, text), 0);
            Check.same("the buffer is empty", x.truncateInput(1) ? 1 : 0, 0);
        }
        Check.give(x, "a" + " ".repeat(599));
        Check.same("no word of 600 bytes", x.uses(0), 0);
        Check.same("the buffer is empty", x.truncateInput(1) ? 1 : 0, 0);
        Check.give(x, "a");
        Check.throwing("no such writer", Check.INDEX, () -> x.uses(2));
        Check.same("the buffer stays", x.uses(0), 3);
        Check.same("the buffer is empty behind a word", x.truncateInput(1) ? 1 : 0, 0);
        Check.same("nothing but the buffer is changed", x.count(8), 1);
    }

    // Promise 14: "in how many lines of the writer that count now"
    private static void usesInLinesThatCountNow() {
        LineOffice x = of("stuff 2;worn 99;distinct 2;", VERSE, "a/a a b/a a");
        Check.submit(x, 1, VERSE, "a");
        Check.same("one counts", Check.uses(x, 0, "a"), 1);
        Check.same("none counts", Check.uses(x, 0, "b"), 0);
        x.appeal(0, 1);
        x.appeal(0, 2);
        Check.same("two count", Check.uses(x, 0, "a"), 2);
        Check.same("one counts", Check.uses(x, 0, "b"), 1);
        Check.same("of the other one", Check.uses(x, 1, "a"), 1);
        Check.same("of the other one", Check.uses(x, 1, "b"), 0);
    }

    // Promise 15: "of several words that which stands first; NONE if no line counts", "(also in a line that does not
    // count)"
    private static void favourite() {
        writers("favourite", LineOffice::favourite);
        LineOffice x = of("measure 30;stuff 2;worn 99;distinct 2;", VERSE, "a a");
        Check.same("no line counts", x.favourite(0), NONE);
        Check.same("no line", x.favourite(1), NONE);
        Check.submit(x, 0, VERSE, "b a/c");
        Check.same("a, b and c in one line each, and a stands first in a line that does not count", x.favourite(0), 0);
        Check.submit(x, 0, VERSE, "d b");
        Check.same("b in two lines", x.favourite(0), 100);
        x.set(5, 1);
        x.appeal(0, 0);
        Check.same("a and b in two lines", x.favourite(0), 0);
        Check.submit(x, 1, VERSE, "x y/x y");
        Check.same("two words in one line, the other one is caught", x.favourite(1), 300);
        LineOffice y = full();
        y.undo();
        Check.submit(y, 0, LIST, Check.words(660, 57, " ") + "zzz yyy xxx");
        Check.same("all in one line", y.favourite(0), 0);
        y.undo();
        Check.submit(y, 0, VERSE, Check.words(660, 54, "/") + "zzz/zzz yyy/zzz xxx/zzz");
        Check.same("a word of the last work", y.favourite(0), 1154);
    }

    private static void favouriteAtTheLastWord() {
        LineOffice x = of("measure 30;stuff 2;worn 99;", LIST, Check.words(0, 59, " ") + "zzz");
        Check.submit(x, 0, VERSE, "zzz yyy");
        Check.same("word 59", x.favourite(0), 59);
    }

    // Promise 16: "the different words that two works both have", "perhaps the same"
    private static void common() {
        works("common", (x, i) -> x.common(i, 0));
        LineOffice x = of("", PROSE, "a b a b", "c", "b a d a");
        Check.submit(x, 1, PROSE, "a");
        numbered("common with", 4, i -> x.common(0, i));
        row("of work 0", i -> x.common(0, i), 2, 0, 2, 1);
        row("of work 1", i -> x.common(1, i), 0, 1, 0, 0);
        row("of work 2", i -> x.common(2, i), 2, 0, 3, 1);
        row("of work 3", i -> x.common(3, i), 1, 0, 1, 1);
        LineOffice y = full();
        Check.same("all of sixty", y.common(11, 11), 60);
        Check.same("none of sixty", y.common(11, 0), 0);
    }

    // Promise 17: "that stand in no earlier work of its writer"
    private static void newWords() {
        works("newWords", LineOffice::newWords);
        LineOffice x = of("stuff 2;worn 99;", PROSE, "a a b", "c a");
        Check.submit(x, 1, PROSE, "a b c");
        Check.submit(x, 0, PROSE, "c b a");
        Check.submit(x, 0, PROSE, "d");
        // those of work 0 stand there, though its line is caught, and those of later works do not matter
        row("newWords", x::newWords, 2, 1, 3, 0, 1);
        Check.same("all of sixty", full().newWords(11), 60);
    }

    // Promise 18: "the smallest one on a tie"
    private static void widest() {
        works("widest", LineOffice::widest);
        LineOffice x = of("stuff 9;worn 99;", LIST, "a", "a b c", "a bb c", "a bb cc", "aa b c", "a b cc");
        row("widest", x::widest, 0, 0, 1, 1, 0, 2);
        Check.submit(x, 0, LIST, "a ".repeat(59) + "bb");
        Check.same("the last of sixty", x.widest(6), 59);
    }

    // Promise 19: "the smallest one on a tie; NONE if no line stands in such a work", "each line of the work counted
    // once"
    private static void copiedFrom() {
        works("copiedFrom", LineOffice::copiedFrom);
        LineOffice x = of("stuff 9;worn 99;", LIST, "a b c");
        Check.same("no work of another writer", x.copiedFrom(0), NONE);
        Check.submit(x, 0, LIST, "a b c");
        Check.same("its own writer's are none", x.copiedFrom(0), NONE);
        Check.submit(x, 1, LIST, "d e");
        Check.same("no line of it", x.copiedFrom(0), NONE);
        Check.submit(x, 1, LIST, "c c c");
        Check.same("one line of a later work", x.copiedFrom(0), 3);
        Check.same("three lines of it, and the smallest one on a tie", x.copiedFrom(3), 0);
        Check.submit(x, 1, LIST, "a d");
        Check.same("a tie", x.copiedFrom(0), 3);
        Check.submit(x, 1, LIST, "b a d");
        Check.same("two lines", x.copiedFrom(0), 5);
        Check.submit(x, 0, LIST, "f");
        Check.same("none", x.copiedFrom(6), NONE);
        Check.submit(x, 1, VERSE, "a b c");
        Check.same("three words and no line", x.copiedFrom(7), NONE);
    }

    private static void copiedFromByEachLine() {
        LineOffice x = of("stuff 9;worn 99;", VERSE, "a/a/b/c d");
        Check.submit(x, 1, LIST, "b b b");
        Check.same("one line, that stands there three times", x.copiedFrom(0), 1);
        Check.submit(x, 1, PROSE, "a");
        Check.same("two lines, though of the same words", x.copiedFrom(0), 2);
        Check.submit(x, 1, VERSE, "c d/b/a");
        Check.same("all four", x.copiedFrom(0), 3);
    }

    // Promise 20
    private static void entry() {
        LineOffice x = Check.office("");
        numbered("entry of none", 0, i -> x.entry(i, 0));
        x.advance(1, 999);
        numbered("entry of one", 1, i -> x.entry(i, 3));
        whats("part of an entry", 4, i -> x.entry(0, i));
        row("entry", i -> x.entry(0, i), 0, 1, 5, -999);
        x.endow(999);
        for (int i = 2; i <= 31; i++) {
            x.advance(0, i);
            int kept = Math.min(30, i);
            numbered("entry of " + kept, kept, j -> j > 0 && j < kept - 1 ? 0 : x.entry(j, 0));
        }
        x.undo();
        x.undo();
        numbered("entry of 29", 29, i -> i > 0 && i < 28 ? 0 : x.entry(i, 0));
    }

    // Promise 21: "0 if to is less than from", "of the entries that are kept"
    private static void booked() {
        writers("booked", (x, i) -> x.booked(i, 0, 0));
        LineOffice x = Check.office("");
        Check.same("no entries", x.booked(0, LEAST, GREATEST), 0);
        x.advance(0, 1);
        x.pass(2);
        x.advance(0, 10);
        x.advance(1, 500);
        x.pass(1);
        x.advance(0, 100);
        int[][] due = {{0, 0, -1}, {0, 1, -1}, {0, 2, -11}, {0, 3, -111}, {1, 1, 0}, {1, 2, -10}, {2, 2, -10},
            {2, 3, -110}, {3, 3, -100}, {3, 4, -100}, {4, 4, 0}, {-5, -1, 0}, {1, 0, 0}, {2, 1, 0}, {3, 0, 0},
            {3, 2, 0}, {0, -1, 0},
            {LEAST, GREATEST, -111}, {GREATEST, LEAST, 0}, {LEAST, 0, -1}, {3, GREATEST, -100}, {LEAST, LEAST, 0},
            {GREATEST, GREATEST, 0}};
        for (int[] asked : due) {
            Check.same("days " + asked[0] + " to " + asked[1], x.booked(0, asked[0], asked[1]), asked[2]);
        }
        for (int i = 0; i < 27; i++) {
            x.advance(1, 1);
        }
        Check.same("entry 31 puts one away", x.booked(0, 0, 3), -110);
        x.undo();
        Check.same("it is back", x.booked(0, 0, 3), -111);
    }

    // Promises 22 and 23: "the smallest one on a tie", "or the same one and a smaller number"
    private static void richestAndRank() {
        writers("rank", LineOffice::rank);
        LineOffice one = new LineOffice();
        Check.same("richest of one", one.richest(), 0);
        Check.same("rank of one", one.rank(0), 0);
        LineOffice x = full();
        x.advance(0, 999);
        Check.same("richest of six", x.richest(), 0);
        row("ranks of six", x::rank, 0, 1, 2, 3, 4, 5);
        LineOffice y = new LineOffice();
        Check.load(y, "office 999;writer a;writer b;writer c;writer d;writer e;writer f;");
        Check.same("richest on a tie", y.richest(), 0);
        row("ranks on a tie", y::rank, 0, 1, 2, 3, 4, 5);
        for (int i = 0; i < 5; i++) {
            y.advance(i, 1);
        }
        Check.same("the last one is the richest", y.richest(), 5);
        row("ranks below the last one", y::rank, 1, 2, 3, 4, 5, 0);
        y.undo();
        Check.same("the last but one is as rich", y.richest(), 4);
        for (int richest = 3; richest >= 0; richest--) {
            y.undo();
            Check.same("the one of them with the smallest number", y.richest(), richest);
        }
        for (int i = 0; i < 5; i++) {
            y.advance(i, 1);
        }
        y.advance(5, 2);
        y.advance(2, 1);
        Check.same("all below 0", y.richest(), 0);
        row("ranks below 0", y::rank, 0, 1, 4, 2, 3, 5);
    }

    // Promise 24
    private static void meanWidth() {
        works("meanWidth", LineOffice::meanWidth);
        LineOffice x = of("stuff 9;worn 99;", LIST, "a", "abcdefghijkl", "a b cc", "a bb", "a ".repeat(59) + "bb");
        double[] due = {1.0, 12.0, 4.0 / 3.0, 1.5, 61.0 / 60.0};
        for (int i = 0; i < due.length; i++) {
            Check.same("meanWidth " + i, x.meanWidth(i), due[i]);
        }
    }

    // Promise 25: "0 without lines", "as they were handed in"
    private static void caughtShare() {
        writers("caughtShare", LineOffice::caughtShare);
        LineOffice x = of("stuff 2;distinct 1;", VERSE, "a a/b b");
        Check.same("all", x.caughtShare(0), 1.0);
        Check.same("without lines", x.caughtShare(1), 0.0);
        Check.submit(x, 1, VERSE, "a");
        Check.same("none", x.caughtShare(1), 0.0);
        Check.submit(x, 0, VERSE, "c");
        Check.same("two of three", x.caughtShare(0), 2.0f / 3.0f);
        x.appeal(0, 0);
        Check.same("as they were handed in", x.caughtShare(0), 2.0f / 3.0f);
    }

    // Promises 26 and 27: "6 to 30"
    private static void otherMeasures() {
        works("linesIf", (x, i) -> x.linesIf(i, 6));
        works("payIf", (x, i) -> x.payIf(i, 30));
        LineOffice x = of("", PROSE, "abcdef", "abc de", "abc def", "abcdefghijkl abcdefghijkl abcd",
                "abcdefghijkl abcdefghijkl abcde");
        taken("linesIf", 6, 30, Check.ARGUMENT, i -> x.linesIf(0, i));
        taken("payIf", 6, 30, Check.ARGUMENT, i -> x.payIf(0, i));
        row("lines by 6", i -> x.linesIf(i, 6), 1, 1, 2, 3, 3);
        row("lines by 7", i -> x.linesIf(i, 7), 1, 1, 1, 3, 3);
        row("lines by 29", i -> x.linesIf(i, 29), 1, 1, 1, 2, 2);
        row("lines by 30", i -> x.linesIf(i, 30), 1, 1, 1, 1, 2);
        row("pay by 6", i -> x.payIf(i, 6), 10, 10, 20, 30, 30);
        row("pay by 12", i -> x.payIf(i, 12), 10, 10, 10, 25, 25);
        row("pay by 13", i -> x.payIf(i, 13), 5, 5, 10, 25, 25);
        row("pay by 30", i -> x.payIf(i, 30), 5, 5, 5, 10, 15);
        Check.same("lines as they were made", x.work(4, 4), 2);
    }

    // Promise 26: "(slashes of verse end lines as they did)"
    private static void otherMeasuresOfVerseAndLists() {
        LineOffice x = of("stuff 9;worn 99;", VERSE, "a/b//c d", "/abc def/g/");
        row("verse by 30", i -> x.linesIf(i, 30), 3, 2);
        row("verse by 6", i -> x.linesIf(i, 6), 3, 3);
        Check.submit(x, 0, LIST, "a b c");
        Check.submit(x, 0, LIST, "a ".repeat(60));
        Check.submit(x, 0, PROSE, "a ".repeat(60));
        for (int measure : new int[] {6, 30}) {
            Check.same("list", x.linesIf(2, measure), 3);
            Check.same("list of sixty", x.linesIf(3, measure), 60);
            Check.same("prose of sixty", x.linesIf(4, measure), measure == 6 ? 20 : 4);
        }
    }

    // Promise 27: "(half of RATE by this one, too) if all of its lines counted, by RATE as it is now"
    private static void payOfAllLines() {
        LineOffice x = of("measure 6;stuff 2;worn 1;prose 9;", PROSE, "aa aa", "aaa");
        Check.same("though its line is caught", x.payIf(0, 6), 9);
        Check.same("half by this one", x.payIf(0, 11), 4);
        Check.same("not yet half by this one", x.payIf(0, 10), 9);
        x.set(7, 99);
        Check.same("by RATE of now", x.payIf(0, 6), 99);
        Check.same("half of 99, cut", x.payIf(0, 30), 49);
        x.set(7, 1);
        Check.same("half of 1, cut", x.payIf(0, 30), 0);
        x.set(7, 0);
        Check.same("RATE 0", x.payIf(0, 6), 0);
        x.set(0, 30);
        x.set(7, 8);
        Check.same("MEASURE of now does not matter", x.payIf(1, 6), 8);
        Check.same("MEASURE of now does not matter", x.payIf(1, 7), 4);
    }

    private static void linesOf15Words() {
        LineOffice x = of("measure 30;", PROSE, "a b c d e f g h i j k l m n o p");
        row("numbers of the line", i -> x.line(0, 0, i), 0, 15, 29, 0, 0, 10, 15);
        Check.same("pay by 30", x.payIf(0, 30), 10 + 5);
        Check.same("pay by 29", x.payIf(0, 29), 10 + 5);
        Check.same("pay by 28", x.payIf(0, 28), 10 + 5);
        Check.same("lines by 28", x.linesIf(0, 28), 2);
        Check.same("lines by 6", x.linesIf(0, 6), 6);
    }

    // Promise 27: "by RATE as it is now", which is that of its kind
    private static void payOfEachKind() {
        LineOffice x = of("measure 6;prose 10;verse 30;list 50;", PROSE, "aaa");
        Check.submit(x, 0, VERSE, "bbb");
        Check.submit(x, 0, LIST, "ccc");
        row("pay by 6", i -> x.payIf(i, 6), 10, 30, 50);
        row("pay by 7", i -> x.payIf(i, 7), 5, 15, 25);
        // by 6 four lines of which three pay, by 7 four that all pay
        Check.submit(x, 0, VERSE, "aa bbbb c dd eee f gggg");
        x.set(8, 1);
        x.set(7, 0);
        Check.same("the best one by RATE of verse", x.bestMeasure(3), 7);
    }

    // Promise 28: "6 to 30, the smallest one on a tie"
    private static void bestMeasure() {
        works("bestMeasure", LineOffice::bestMeasure);
        LineOffice x = of("prose 1;measure 30;", PROSE, "a", "abcdefghijkl", "aa bbbb c dd eee f gggg",
                "aa bbbbb c d ee ff gggg h ii", "aa bbb cc dddd e ff");
        // no text was found that pays most by a measure above 8: what a wide line pays, its parts pay by 6 as well
        row("bestMeasure", x::bestMeasure, 6, 6, 7, 8, 7);
        row("pay by 6", i -> x.payIf(i, 6), 0, 1, 3, 3, 2);
        row("pay by 7", i -> x.payIf(i, 7), 0, 1, 4, 3, 3);
        row("pay by 8", i -> x.payIf(i, 8), 0, 1, 3, 4, 3);
        x.set(7, 0);
        row("all pay nothing", x::bestMeasure, 6, 6, 6, 6, 6);
        Check.submit(x, 0, LIST, "abc abc");
        Check.submit(x, 0, LIST, "abcdefghijkl abcdefghijkl");
        Check.same("by 6 alone", x.bestMeasure(5), 6);
        Check.same("up to 24 all the same", x.bestMeasure(6), 6);
    }

    // Promises 29 and 30: "0 to 500: how many of the first bytes of the input buffer are read", "or is greater than the
    // length of the buffer"
    private static void lengthsThatAreRead() {
        writers("wouldCount", (x, i) -> x.wouldCount(i, PROSE, 0));
        writers("wouldPay", (x, i) -> x.wouldPay(i, PROSE, 0));
        for (int length : new int[] {0, 1, 19, 20, 21, 499, 500, 501, 600}) {
            LineOffice x = new LineOffice();
            Check.give(x, " ".repeat(length));
            int[] lengths = {LEAST, -1, 0, length - 1, length, length + 1, 499, 500, 501, 600, 601, GREATEST};
            for (int asked : lengths) {
                if (asked >= 0 && asked <= length && asked <= 500) {
                    Check.same("no words in " + asked + " bytes", x.wouldCount(0, PROSE, asked), NONE);
                    Check.same("no pay for " + asked + " bytes", x.wouldPay(0, PROSE, asked), 0);
                } else {
                    Check.throwing(asked + " of " + length, Check.ARGUMENT, () -> x.wouldCount(0, PROSE, asked));
                    Check.throwing(asked + " of " + length, Check.ARGUMENT, () -> x.wouldPay(0, PROSE, asked));
                }
            }
            Check.same("the buffer stays", x.truncateInput(length) ? 1 : 0, 1);
        }
    }

    // Promises 29 and 30: "PROSE, VERSE or LIST"
    private static void kindsThatAreRead() {
        LineOffice x = new LineOffice();
        Check.give(x, "abcdefghij b a");
        taken("kind", PROSE, LIST, Check.ARGUMENT, i -> x.wouldCount(0, i, 14));
        taken("kind", PROSE, LIST, Check.ARGUMENT, i -> x.wouldPay(0, i, 14));
        row("lines by kind", i -> x.wouldCount(0, i, 14), 1, 1, 3);
        row("pay by kind", i -> x.wouldPay(0, i, 14), 10, 8, 5 + 2 + 2);
    }

    // Promises 29 and 30: "how many of the first bytes", "a work is read from them as submit() reads it"
    private static void firstBytesAlone() {
        LineOffice x = new LineOffice();
        Check.give(x, "ab abcdefghijklm !");
        int[] due = {NONE, 1, 1, 1, 2};
        row("up to the second word", i -> x.wouldCount(0, LIST, i), due);
        Check.same("12 letters of 13", x.wouldCount(0, LIST, 15), 2);
        Check.same("13 letters", x.wouldCount(0, LIST, 16), NONE);
        Check.same("13 letters", x.wouldPay(0, LIST, 16), 0);
        x.truncateInput(0);
        Check.give(x, "a b !");
        Check.same("ahead of a byte that is none", x.wouldCount(0, LIST, 4), 2);
        Check.same("with it", x.wouldCount(0, LIST, 5), NONE);
        Check.same("as submit reads it", x.submit(0, LIST, 4), 0);
        x.truncateInput(0);
        Check.give(x, "a ".repeat(250) + "b".repeat(100));
        Check.same("60 words, of which no line counts", x.wouldCount(0, VERSE, 120), 0);
        Check.same("61 words", x.wouldCount(0, VERSE, 121), NONE);
        Check.same("250 words", x.wouldCount(0, VERSE, 500), NONE);
        Check.same("250 words", x.wouldPay(0, VERSE, 500), 0);
    }

    // Promise 29: "NONE if the words cannot be read"; promise 30: "0 if the words cannot be read"
    private static void wordsThatCannotBeRead() {
        String[] texts = {"", " ", "\n", "abcdefghijklm", "a A", "a 1", "a;", Check.words(0, 61, " "), "a" + (char) 0};
        LineOffice x = new LineOffice();
        for (String text : texts) {
            x.truncateInput(0);
            Check.give(x, text);
            for (int kind = PROSE; kind <= LIST; kind++) {
                Check.same("wouldCount of " + text, x.wouldCount(0, kind, text.length()), NONE);
                Check.same("wouldPay of " + text, x.wouldPay(0, kind, text.length()), 0);
            }
        }
    }

    // Promise 29: "how many lines of a work would count if it was handed in now"; promise 30: "by how much the balance
    // of a writer would become greater", "(below 0, if it would become less)"
    private static void wouldBeAsSubmitted() {
        String[] texts = {"a", "the", "a a", "the cat/the cat/cat/sat/sat the", "the cat sat", "of of/of of",
            "q/q q/r s"};
        int[] counts = {1, 1, 0, 2, 1, 0, 2};
        int[] pays = {4, 4, -3, 4 + 8 - 3 * 3, 8, -6, 4 + 4 - 3};
        for (int i = 0; i < texts.length; i++) {
            LineOffice x = of("measure 11;stuff 2;worn 3;fine 3;", VERSE, "the cat/sat");
            int before = x.writer(0, 0);
            Check.give(x, texts[i]);
            Check.same("wouldCount " + texts[i], x.wouldCount(0, VERSE, texts[i].length()), counts[i]);
            Check.same("wouldPay " + texts[i], x.wouldPay(0, VERSE, texts[i].length()), pays[i]);
            Check.same("works", x.submit(0, VERSE, texts[i].length()), 1);
            Check.same("as submitted: " + texts[i], x.work(1, 5), counts[i]);
            Check.same("as submitted: " + texts[i], x.writer(0, 0) - before, pays[i]);
        }
    }

    // Promise 29: "(also if there are 12 works). The buffer stays as it is."
    private static void wouldBeBehind12Works() {
        LineOffice x = full();
        Check.give(x, "aaa zzz zzz/");
        Check.same("wouldCount", x.wouldCount(0, LIST, 11), 1);
        Check.same("wouldPay", x.wouldPay(0, LIST, 11), 49 - 2 * 2);
        Check.same("wouldCount of another writer", x.wouldCount(5, LIST, 11), 2);
        Check.same("wouldPay of another writer", x.wouldPay(5, LIST, 11), 2 * 49 - 2);
        Check.same("wouldPay of nothing", x.wouldPay(0, LIST, 3), -2);
        Check.same("a byte that is none", x.wouldCount(0, LIST, 12), NONE);
        Check.same("works", x.count(1), 12);
        Check.same("above the length", x.truncateInput(13) ? 1 : 0, 0);
        Check.same("the length", x.truncateInput(12) ? 1 : 0, 1);
        Check.same("WRONG comes ahead of FULL", x.submit(0, LIST, 12), LineOffice.WRONG);
    }

    // Promise 31: "as for setting()", "a value in its range (section 4)"
    private static void countsIfOfValues() {
        works("countsIf", (x, i) -> x.countsIf(i, 0, 6));
        String text = "a a b abcdefgh abcd a a";
        for (int i = 0; i < 10; i++) {
            int what = i;
            LineOffice y = of("measure 30;stuff 9;worn 99;", PROSE, text);
            taken("countsIf of setting " + i, LOWEST[i], HIGHEST[i], Check.ARGUMENT, j -> y.countsIf(0, what, j));
        }
        LineOffice x = of("measure 30;stuff 9;worn 99;", PROSE, text);
        whats("countsIf of setting", 10, i -> x.countsIf(0, i, i == 0 ? 6 : 2));
        Check.same("MEASURE 6", x.countsIf(0, 0, 6), 4);
        Check.same("MEASURE 22", x.countsIf(0, 0, 22), 2);
        Check.same("MEASURE 23", x.countsIf(0, 0, 23), 1);
        Check.same("STUFF 4", x.countsIf(0, 1, 4), 0);
        Check.same("STUFF 5", x.countsIf(0, 1, 5), 1);
        Check.same("the highest STUFF", x.countsIf(0, 1, 9), 1);
        for (int what = 3; what < 10; what++) {
            Check.same("the lowest of " + what, x.countsIf(0, what, LOWEST[what]), 1);
            Check.same("the highest of " + what, x.countsIf(0, what, HIGHEST[what]), 1);
        }
    }

    // Promise 31: "all others were as they are now (its lines are made anew by MEASURE)"
    private static void countsIfByTheOthersAsTheyAreNow() {
        LineOffice x = of("measure 6;stuff 9;worn 99;", PROSE, "a a abcdef a a");
        Check.same("as it was", x.countsIf(0, 6, 0), 2);
        x.set(0, 30);
        Check.same("MEASURE of now", x.countsIf(0, 6, 0), 1);
        x.set(1, 4);
        Check.same("STUFF of now", x.countsIf(0, 6, 0), 0);
        Check.same("MEASURE 6", x.countsIf(0, 0, 6), 2);
        Check.same("STUFF 5", x.countsIf(0, 1, 5), 1);
        x.set(2, 1);
        Check.submit(x, 0, PROSE, "a");
        Check.same("WORN 1 of now", x.countsIf(1, 6, 0), 0);
        Check.same("WORN 2", x.countsIf(1, 2, 2), 1);
        Check.same("lines stay", x.work(0, 4), 3);
    }

    // Promise 31: "its past is that of the earlier works of its writer as they are now"
    private static void countsIfByThePastAsItIsNow() {
        LineOffice x = of("stuff 2;worn 99;distinct 1;", VERSE, "a a", "a a/b", "b/a a");
        Check.same("the first work has no past", x.countsIf(0, 1, 9), 1);
        Check.same("nothing that counts is past, nor is a later work", x.countsIf(1, 1, 9), 2);
        Check.same("b is past", x.countsIf(2, 1, 9), 1);
        x.appeal(0, 0);
        Check.same("an appeal of the work itself", x.countsIf(0, 1, 9), 1);
        Check.same("its line counts now", x.countsIf(1, 1, 9), 1);
        Check.same("both are past", x.countsIf(2, 1, 9), 0);
        Check.submit(x, 1, VERSE, "b/a a");
        Check.same("another writer's are none", x.countsIf(3, 1, 9), 2);
        LineOffice y = full();
        Check.same("the last work of a full shelf", y.countsIf(11, 2, 1), 60);
        y.undo();
        Check.submit(y, 0, VERSE, Check.words(659, 60, "/"));
        Check.same("of which one stands in the past", y.countsIf(11, 2, 1), 59);
    }

    // Promise 32: "the first that applies: 1 it was not caught, or there was an appeal; 2 it is too late; 3 the writer
    // lost three; 0 if there can be one"
    private static void whyNot() {
        lines("whyNot", (x, i) -> x.whyNot(i[0], i[1]));
        LineOffice x = of("stuff 2;distinct 2;term 1;", VERSE, "a a/b b/c c/d d e/f f/g");
        row("now", i -> x.whyNot(0, i), 0, 0, 0, 0, 0, 1);
        x.appeal(0, 0);
        x.appeal(0, 3);
        row("behind an appeal of either sort", i -> x.whyNot(0, i), 1, 0, 0, 1, 0, 1);
        x.pass(1);
        row("on the last day", i -> x.whyNot(0, i), 1, 0, 0, 1, 0, 1);
        x.appeal(0, 1);
        x.pass(1);
        row("too late", i -> x.whyNot(0, i), 1, 1, 2, 1, 2, 1);
        x.set(4, 2);
        x.appeal(0, 2);
        row("three are lost", i -> x.whyNot(0, i), 1, 1, 1, 1, 3, 1);
        x.pass(1);
        row("too late, and three are lost", i -> x.whyNot(0, i), 1, 1, 1, 1, 2, 1);
    }

    // Promise 33: "for which an appeal could be made now and would be granted"
    private static void hopes() {
        writers("hopes", LineOffice::hopes);
        LineOffice x = of("stuff 2;distinct 2;term 3;", VERSE, "a a/b b c/d d e f/g g h", "i i/j j k");
        Check.submit(x, 1, VERSE, "i i j");
        Check.same("four of six", x.hopes(0), 4);
        Check.same("one of one", x.hopes(1), 1);
        x.set(5, 1);
        Check.same("all", x.hopes(0), 6);
        x.set(5, 3);
        Check.same("one", x.hopes(0), 1);
        x.set(5, 4);
        Check.same("none", x.hopes(0), 0);
        x.set(5, 2);
        x.appeal(0, 1);
        Check.same("one less behind an appeal that is granted", x.hopes(0), 3);
        x.appeal(0, 0);
        Check.same("no less behind one that is lost", x.hopes(0), 3);
        x.set(5, 1);
        Check.same("a lost one is none, though it has DISTINCT words now", x.hopes(0), 4);
        x.undo();
        x.pass(3);
        Check.submit(x, 0, VERSE, "m m/n n");
        Check.same("the last day", x.hopes(0), 3);
        x.appeal(1, 0);
        Check.same("two are lost", x.hopes(0), 3);
        x.appeal(3, 0);
        Check.same("three are lost", x.hopes(0), 0);
        x.undo();
        x.pass(1);
        x.set(5, 1);
        Check.same("of the second work alone", x.hopes(0), 2);
        Check.same("all too late", x.hopes(1), 0);
    }

    private static void hopesOfEachWriter() {
        LineOffice x = Check.office("stuff 2;distinct 2;");
        for (int writer = 0; writer < 2; writer++) {
            Check.submit(x, writer, VERSE, "a a/b b/c c/d d e");
        }
        for (int line = 0; line < 3; line++) {
            Check.same("lost", x.appeal(0, line), 0);
        }
        Check.same("three are lost", x.hopes(0), 0);
        Check.same("by another writer", x.hopes(1), 1);
        for (int line = 0; line < 3; line++) {
            Check.same("lost", x.appeal(1, line), 0);
            Check.same("lost by both", x.hopes(1), line < 2 ? 1 : 0);
        }
        for (int i = 0; i < 4; i++) {
            x.undo();
        }
        Check.same("two are lost by one", x.hopes(0), 1);
        Check.same("none by the other", x.hopes(1), 1);
    }

    // Promise 34: "side by side, that count now. Returns how many lines it has; 0 if none counts."
    private static void longestRun() {
        works("longestRun", LineOffice::longestRun);
        String[] texts = {"x x", "a", "x x/x x", "a/b", "a/x x", "x x/a", "a/b/x x/c", "a/x x/b/c", "a/x x/b",
            "x x/a/b/x x", "a/b/x x/c/d", "x x/a/x x/b/c/d"};
        int[] due = {0, 1, 0, 2, 1, 1, 2, 2, 1, 2, 2, 3};
        for (int i = 0; i < texts.length; i++) {
            LineOffice x = of("stuff 2;distinct 1;", VERSE, texts[i]);
            Check.same("longestRun of " + texts[i], x.longestRun(0), due[i]);
        }
        LineOffice x = of("stuff 2;distinct 1;fine 0;", VERSE, "a/b/x x/c/d");
        x.appeal(0, 2);
        Check.same("that count now", x.longestRun(0), 5);
        Check.same("all of sixty", full().longestRun(11), 60);
    }

    private static void numbers() {
        count();
        countOfLinesThatCountNow();
        sumOfBalancesAbove0();
        setting();
        writer();
        caughtAsTheyWereHandedIn();
        wordsInWornLines();
        work();
        line();
    }

    private static void found() {
        likeLine();
        likeLineOfOtherKinds();
        likeLineIsTheFirst();
        likeLineOfCaughtOnes();
        letters();
        uses();
        usesInLinesThatCountNow();
        favourite();
        favouriteAtTheLastWord();
        common();
        newWords();
        widest();
        copiedFrom();
        copiedFromByEachLine();
    }

    private static void moneyAndMeans() {
        entry();
        booked();
        richestAndRank();
        meanWidth();
        caughtShare();
        otherMeasures();
        otherMeasuresOfVerseAndLists();
        payOfAllLines();
        payOfEachKind();
        linesOf15Words();
        bestMeasure();
    }

    private static void whatWouldBe() {
        lengthsThatAreRead();
        kindsThatAreRead();
        firstBytesAlone();
        wordsThatCannotBeRead();
        wouldBeAsSubmitted();
        wouldBeBehind12Works();
        countsIfOfValues();
        countsIfByTheOthersAsTheyAreNow();
        countsIfByThePastAsItIsNow();
        whyNot();
        hopes();
        hopesOfEachWriter();
        longestRun();
    }

    public static void main(String[] args) {
        numbers();
        found();
        moneyAndMeans();
        whatWouldBe();
        Check.end();
    }
}
