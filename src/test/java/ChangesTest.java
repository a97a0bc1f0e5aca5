/** Promises 35 to 49: the changes, their undoing, the output and the saved state. */
public final class ChangesTest {
    private static final int PROSE = LineOffice.PROSE;
    private static final int VERSE = LineOffice.VERSE;
    private static final int LIST = LineOffice.LIST;
    private static final int[] NO_WRITERS = {Integer.MIN_VALUE, -1, 2, Integer.MAX_VALUE};

    private static String words(int count) {
        StringBuilder text = new StringBuilder();
        for (int i = 0; i < count; i++) {
            text.append(i > 0 ? " " : "").append((char) ('a' + i / 26)).append((char) ('a' + i % 26));
        }
        return text.toString();
    }

    private static void promise35Submit() {
        LineOffice x = Check.office("measure 10;stuff 3;worn 2;");
        Check.same("first work", Check.submit(x, 0, PROSE, "the cat sat on the mat"), 0);
        Check.same("buffer is empty", x.truncateInput(1) ? 1 : 0, 0);
        Check.same("second work", Check.submit(x, 1, VERSE, "/the cat//sat/ "), 1);
        Check.same("lines", Check.lines(x, 1), "the cat|sat");
        Check.same("third work", Check.submit(x, 1, LIST, "\nthe  cat\n\n mat"), 2);
        Check.same("lines", Check.lines(x, 2), "the|cat|mat");
        Check.same("balance of ann", x.writer(0, 0), 25);
        // 8 and 4 for verse, and 2 for each of the three words, of which the cat made none stale
        Check.same("balance of bob", x.writer(1, 0), 8 + 4 + 2 + 2 + 2);
        Check.same("changes", x.count(8), 3);
        Check.give(x, "abc def ghi");
        Check.same("the first bytes", x.submit(0, LIST, 6), 3);
        Check.same("the first bytes", Check.lines(x, 3), "abc|de");
        Check.same("all of the buffer is gone", x.truncateInput(1) ? 1 : 0, 0);
        Check.same("60 words of 2 letters", Check.submit(x, 0, PROSE, words(60)), 4);
        Check.same("lines of three", x.work(4, 4), 20);
        Check.same("12 letters", Check.submit(x, 0, PROSE, "abcdefghijkl b"), 5);
        Check.same("letters", x.letters(5, 0), 12);
    }

    private static void promise35Refused() {
        LineOffice x = Check.office("");
        String[] wrong = {"", " \n ", words(61), "abcdefghijklm", "a abcdefghijklmnop", "A", "a1", "a;", "a\t", "a/b",
            "a,b", "a" + (char) 225, "a" + (char) 0, "a`", "a{"};
        for (String text : wrong) {
            for (int kind = PROSE; kind <= LIST; kind++) {
                if (kind != VERSE || !text.equals("a/b")) {
                    Check.same("submit of '" + text + "' " + kind, Check.submit(x, 0, kind, text), LineOffice.WRONG);
                    Check.same("buffer is empty", x.truncateInput(1) ? 1 : 0, 0);
                }
            }
        }
        Check.same("only slashes", Check.submit(x, 0, VERSE, "// /"), LineOffice.WRONG);
        Check.same("no change", x.count(8), 0);
        Check.same("no work", x.count(1), 0);
        Check.give(x, "one two");
        for (int bad : NO_WRITERS) {
            Check.throwing("submit of writer " + bad, Check.INDEX, () -> x.submit(bad, 5, 99));
        }
        for (int bad : new int[] {Integer.MIN_VALUE, -1, 3, Integer.MAX_VALUE}) {
            Check.throwing("submit of kind " + bad, Check.ARGUMENT, () -> x.submit(0, bad, 7));
        }
        for (int bad : new int[] {Integer.MIN_VALUE, -1, 8, Integer.MAX_VALUE}) {
            Check.throwing("submit of length " + bad, Check.ARGUMENT, () -> x.submit(0, PROSE, bad));
        }
        Check.same("the buffer stays if it throws", x.truncateInput(7) ? 1 : 0, 1);
        for (int i = 0; i < 12; i++) {
            Check.same("work " + i, Check.submit(x, 0, PROSE, "one two"), i);
        }
        Check.same("13th work", Check.submit(x, 0, PROSE, "one two"), LineOffice.FULL);
        Check.same("buffer is empty", x.truncateInput(1) ? 1 : 0, 0);
        Check.same("WRONG comes first", Check.submit(x, 0, PROSE, "one 2"), LineOffice.WRONG);
        Check.same("works", x.count(1), 12);
        x.undo();
        Check.same("room for one more", Check.submit(x, 0, PROSE, "one two"), 11);
    }

    private static void payAndFines() {
        LineOffice x = Check.office("measure 7;stuff 2;fine 3;prose 9;verse 7;list 5;");
        Check.submit(x, 0, PROSE, "abcdefg aaa aaaa bb b");
        // abcdefg, "aaa", "aaaa bb", "b": twice 3 is less than 7
        Check.same("lines", Check.lines(x, 0), "abcdefg|aaa|aaaa bb|b");
        Check.same("pay of half a measure", x.line(0, 1, 5), 4);
        Check.same("pay", x.writer(0, 0), 9 + 4 + 9 + 4);
        Check.submit(x, 1, VERSE, "abcd/abc abc/abc/abcd");
        Check.same("reasons", Check.reasons(x, 1), "0201");
        Check.same("twice 4 is not less than 7", x.line(1, 0, 5), 7);
        Check.same("pay and fines", x.writer(1, 0), 7 + 3 - 6);
        Check.same("fines together", x.entry(2, 3), -6);
        x.set(3, 50);
        x.set(8, 99);
        x.set(0, 30);
        Check.same("pay of a line for good", x.line(1, 1, 5), 7);
        x.set(5, 1);
        Check.same("granted", x.appeal(1, 1), 1);
        Check.same("what it paid, and FINE of now", x.writer(1, 0), 4 + 7 + 50);
        Check.same("entry", x.entry(3, 3), 57);
        Check.submit(x, 0, PROSE, "q q");
        Check.same("a line that is caught only costs", x.writer(0, 0), 26 - 50);
    }

    private static void promise36Appeal() {
        LineOffice x = Check.office("measure 10;stuff 2;worn 1;fine 2;fee 4;term 1;distinct 2;");
        Check.submit(x, 0, VERSE, "the cat/the cat/a a/cat/the the/cat cat/the/the the");
        Check.same("reasons", Check.reasons(x, 0), "01232232");
        Check.same("balance", x.writer(0, 0), 8 - 14);
        Check.same("it counts", x.appeal(0, 0), -1);
        Check.same("granted", x.appeal(0, 1), 1);
        Check.same("balance", x.writer(0, 0), -6 + 10);
        Check.same("others stay as they are", Check.states(x, 0), "cgxxxxxx");
        Check.same("at most one appeal", x.appeal(0, 1), -1);
        Check.same("lost", x.appeal(0, 3), 0);
        Check.same("FEE", x.writer(0, 0), 0);
        Check.same("at most one appeal", x.appeal(0, 3), -1);
        x.pass(1);
        Check.same("on the last day", x.appeal(0, 2), 0);
        x.pass(1);
        Check.same("too late", x.appeal(0, 4), -2);
        x.set(4, 2);
        Check.same("in TERM of now", x.appeal(0, 4), 0);
        Check.same("three were lost", x.appeal(0, 5), -3);
        Check.same("changes", x.count(8), 8);
        Check.same("states", Check.states(x, 0), "cglllxxx");
        Check.same("balance", x.writer(0, 0), -8);
        Check.same("reason stays", x.line(0, 1, 4), 1);
        Check.same("entries", x.count(6), 6);
        Check.same("entry of the appeal", x.entry(2, 2), 2);
        Check.same("entry of FEE", x.entry(5, 2), 3);
        Check.same("its day", x.entry(5, 0), 2);
        Check.same("its amount", x.entry(5, 3), -4);
        x.undo();
        Check.same("two were lost", x.whyNot(0, 5), 0);
        for (int bad : new int[] {Integer.MIN_VALUE, -1, 8, Integer.MAX_VALUE}) {
            Check.throwing("appeal for line " + bad, Check.INDEX, () -> x.appeal(0, bad));
        }
        for (int bad : new int[] {Integer.MIN_VALUE, -1, 1, Integer.MAX_VALUE}) {
            Check.throwing("appeal for a line of work " + bad, Check.INDEX, () -> x.appeal(bad, 0));
        }
    }

    private static void promise37PayOut() {
        LineOffice x = Check.office("measure 30;prose 99;");
        Check.same("nothing to pay", x.payOut(0), 0);
        Check.same("a change all the same", x.count(8), 1);
        Check.same("no entry", x.count(6), 0);
        Check.submit(x, 0, PROSE, "some fifteen letters");
        Check.same("the balance", x.payOut(0), 99);
        Check.same("MONEY", x.count(5), 901);
        Check.same("balance", x.writer(0, 0), 0);
        Check.same("paid", x.writer(0, 7), 99);
        Check.same("entry", x.entry(1, 2), 4);
        Check.same("entry", x.entry(1, 3), -99);
        x.advance(0, 50);
        Check.same("below 0", x.payOut(0), 0);
        Check.same("balance", x.writer(0, 0), -50);
        x.advance(1, 801);
        Check.submit(x, 0, PROSE, "other fifteen letters");
        x.set(7, 10);
        Check.submit(x, 0, PROSE, "still some other words");
        Check.same("balance", x.writer(0, 0), 59);
        Check.same("as far as there is MONEY", x.payOut(0), 50);
        Check.same("balance", x.writer(0, 0), 9);
        Check.same("MONEY", x.count(5), 0);
        Check.same("without MONEY", x.payOut(0), 0);
        Check.same("paid, advances too", x.writer(0, 7), 199);
        for (int bad : NO_WRITERS) {
            Check.throwing("payOut of " + bad, Check.INDEX, () -> x.payOut(bad));
        }
    }

    private static void promise38Advance() {
        LineOffice x = Check.office("");
        Check.same("advance", x.advance(1, 999), -999);
        Check.same("a change, though it is below 0", x.count(8), 1);
        Check.same("MONEY", x.count(5), 1);
        Check.same("paid", x.writer(1, 7), 999);
        Check.throwing("too little MONEY", Check.STATE, () -> x.advance(0, 2));
        Check.same("all of MONEY", x.advance(0, 1), -1);
        Check.throwing("without MONEY", Check.STATE, () -> x.advance(0, 1));
        for (int bad : new int[] {Integer.MIN_VALUE, -1, 0, 1000, Integer.MAX_VALUE}) {
            Check.throwing("advance of " + bad, Check.ARGUMENT, () -> x.advance(0, bad));
        }
        for (int bad : NO_WRITERS) {
            Check.throwing("advance to " + bad, Check.INDEX, () -> x.advance(bad, 0));
        }
        Check.same("changes", x.count(8), 2);
        Check.same("entries", x.count(6), 2);
        Check.same("kind", x.entry(0, 2), 5);
        Check.same("amount", x.entry(0, 3), -999);
        Check.same("writer", x.entry(0, 1), 1);
        x.undo();
        Check.same("undone", x.count(5), 1);
        Check.same("undone", x.writer(0, 7), 0);
    }

    private static void promise39AddWriter() {
        LineOffice x = Check.office("");
        String[] wrong = {"", "ann", "bob", "abcdefg", "A", "a b", " a", "a ", "a;", "7", "office", "writer", "stuff",
            "measure", "worn", "fine", "term", "distinct", "fee", "prose", "verse", "list", "abcdefghijklmnop"};
        for (String name : wrong) {
            Check.same("addWriter '" + name + "'", Check.add(x, name), LineOffice.WRONG);
            Check.same("buffer is empty", x.truncateInput(1) ? 1 : 0, 0);
        }
        Check.same("no change", x.count(8), 0);
        Check.same("third", Check.add(x, "abcdef"), 2);
        Check.same("buffer is empty", x.truncateInput(1) ? 1 : 0, 0);
        Check.same("fourth", Check.add(x, "a"), 3);
        Check.same("told again", Check.add(x, "a"), LineOffice.WRONG);
        x.undo();
        Check.same("fourth again", Check.add(x, "a"), 3);
        Check.same("fifth", Check.add(x, "an"), 4);
        Check.same("sixth", Check.add(x, "offic"), 5);
        Check.same("seventh", Check.add(x, "seven"), LineOffice.FULL);
        Check.same("buffer is empty", x.truncateInput(1) ? 1 : 0, 0);
        Check.same("WRONG comes first", Check.add(x, "ann"), LineOffice.WRONG);
        Check.same("writers", x.count(0), 6);
        Check.same("changes", x.count(8), 4);
        x.printBalances();
        Check.same("names", Check.output(x), "ann=0 bob=0 abcdef=0 a=0 an=0 offic=0");
        Check.same("a new one", x.writer(5, 0), 0);
        LineOffice y = Check.office("");
        Check.add(y, "cid");
        Check.submit(y, 2, PROSE, "some words");
        y.advance(2, 4);
        y.undo();
        y.undo();
        y.undo();
        Check.add(y, "dee");
        Check.same("not the balance of the one that was undone", y.writer(2, 0), 0);
        Check.same("nor what it was paid", y.writer(2, 7), 0);
    }

    private static void promise40Endow() {
        LineOffice x = Check.office("");
        Check.same("endow", x.endow(1), 1001);
        for (int i = 1; i <= 9; i++) {
            x.endow(9999);
        }
        Check.same("MONEY", x.count(5), 90992);
        Check.same("just below", x.endow(9006), 99998);
        Check.same("just", x.endow(1), 99999);
        Check.same("at most", x.endow(9999), 99999);
        Check.same("a change all the same", x.count(8), 8);
        x.undo();
        x.undo();
        Check.same("beyond", x.endow(2), 99999);
        x.undo();
        Check.same("what was beyond is lost", x.count(5), 99998);
        for (int bad : new int[] {Integer.MIN_VALUE, -1, 0, 10000, Integer.MAX_VALUE}) {
            Check.throwing("endow of " + bad, Check.ARGUMENT, () -> x.endow(bad));
        }
    }

    private static void promise41Pass() {
        LineOffice x = Check.office("");
        Check.same("pass", x.pass(1), 1);
        Check.same("pass", x.pass(99), 100);
        for (int i = 2; i <= 100; i++) {
            x.pass(99);
        }
        Check.same("day", x.count(4), 9901);
        Check.throwing("day 10000", Check.STATE, () -> x.pass(99));
        Check.same("day 9999", x.pass(98), 9999);
        Check.throwing("day 10000", Check.STATE, () -> x.pass(1));
        for (int bad : new int[] {Integer.MIN_VALUE, -1, 0, 100, Integer.MAX_VALUE}) {
            Check.throwing("pass of " + bad, Check.ARGUMENT, () -> x.pass(bad));
        }
        Check.same("day stays", x.count(4), 9999);
        x.undo();
        Check.same("undone", x.count(4), 9901);
    }

    private static void promise42Set() {
        int[] lowest = {6, 2, 1, 0, 0, 1, 0, 0, 0, 0};
        int[] highest = {30, 9, 99, 99, 30, 9, 99, 99, 99, 99};
        int[] usual = {20, 3, 4, 2, 7, 3, 1, 10, 8, 5};
        LineOffice x = new LineOffice();
        for (int i = 0; i < 10; i++) {
            int what = i;
            Check.same("set " + i, x.set(i, lowest[i]), usual[i]);
            Check.same("set " + i, x.set(i, highest[i]), lowest[i]);
            Check.same("set " + i, x.setting(i), highest[i]);
            for (int bad : new int[] {Integer.MIN_VALUE, lowest[i] - 1, highest[i] + 1, Integer.MAX_VALUE}) {
                Check.throwing("set " + i + " to " + bad, Check.ARGUMENT, () -> x.set(what, bad));
            }
            Check.same("setting stays", x.setting(i), highest[i]);
        }
        for (int bad : new int[] {Integer.MIN_VALUE, -1, 10, Integer.MAX_VALUE}) {
            Check.throwing("set of " + bad, Check.ARGUMENT, () -> x.set(bad, 9));
        }
        LineOffice y = new LineOffice();
        Check.same("the same value", y.set(0, 20), 20);
        Check.same("is a change", y.count(8), 1);
        Check.submit(y, 0, PROSE, "abc abc abcdef");
        y.set(0, 6);
        Check.same("lines stay", y.work(0, 4), 1);
        Check.submit(y, 0, PROSE, "abc abd abcdeg");
        Check.same("from now on", Check.lines(y, 1), "abc|abd|abcdeg");
        y.undo();
        y.undo();
        Check.same("undone", y.setting(0), 20);
    }

    private static void promise43Undo() {
        LineOffice x = Check.office("stuff 2;distinct 1;");
        Check.throwing("nothing to undo", Check.ELEMENT, x::undo);
        Check.submit(x, 0, PROSE, "one one");
        x.appeal(0, 0);
        x.payOut(0);
        x.advance(1, 5);
        Check.add(x, "cid");
        x.endow(5);
        x.pass(4);
        x.set(6, 44);
        Check.same("changes", x.count(8), 8);
        x.printBalances();
        Check.same("printed", Check.output(x), "ann=0 bob=-5 cid=0");
        Check.load(x, "office 1");
        Check.give(x, "rest");
        Check.same("set undone", x.undo(), 7);
        Check.same("set undone", x.setting(6), 1);
        Check.same("pass undone", x.undo(), 6);
        Check.same("pass undone", x.count(4), 0);
        Check.same("endow undone", x.undo(), 5);
        Check.same("endow undone", x.count(5), 1000 - 5 - x.writer(0, 7));
        Check.same("addWriter undone", x.undo(), 4);
        Check.same("addWriter undone", x.count(0), 2);
        Check.same("advance undone", x.undo(), 3);
        Check.same("advance undone", x.writer(1, 0), 0);
        Check.same("payOut undone", x.undo(), 2);
        Check.same("payOut undone", x.writer(0, 0), 5);
        Check.same("appeal undone", x.undo(), 1);
        Check.same("appeal undone", Check.states(x, 0), "x");
        Check.same("appeal undone", x.writer(0, 0), -2);
        Check.same("submit undone", x.undo(), 0);
        Check.same("submit undone", x.count(1), 0);
        Check.same("submit undone", x.count(6), 0);
        Check.same("submit undone", x.writer(0, 0), 0);
        Check.throwing("nothing to undo", Check.ELEMENT, x::undo);
        Check.same("the buffer stays", x.truncateInput(4) ? 1 : 0, 1);
        Check.same("the error stays", x.errorCode(), 1);
        Check.same("the offset stays", x.errorOffset(), 8);
        Check.same("the output stays", Check.output(x), "ann=0 bob=-5 cid=0");
    }

    private static void promise43MostChanges() {
        LineOffice x = Check.office("");
        for (int i = 1; i <= 20; i++) {
            x.pass(1);
        }
        Check.same("at most 8", x.count(8), 8);
        for (int i = 7; i >= 5; i--) {
            Check.same("undo", x.undo(), i);
        }
        Check.same("day", x.count(4), 17);
        for (int i = 6; i <= 10; i++) {
            x.endow(1);
            Check.same("changes", x.count(8), Math.min(8, i));
        }
        for (int i = 7; i >= 0; i--) {
            Check.same("undo", x.undo(), i);
        }
        Check.same("the day of the oldest one", x.count(4), 14);
        Check.same("MONEY of the oldest one", x.count(5), 1000);
        Check.throwing("those are away for good", Check.ELEMENT, x::undo);
        // what is refused or throws is no change, and questions are none
        Check.submit(x, 0, PROSE, "7");
        Check.add(x, "ann");
        x.saveState();
        x.printBalances();
        Check.throwing("pass", Check.ARGUMENT, () -> x.pass(0));
        Check.same("no change", x.count(8), 0);
    }

    private static void promise44PrintLine() {
        LineOffice x = Check.office("measure 30;");
        Check.submit(x, 0, PROSE, "the\n cat  sat on the mat\n of the zoo xyz");
        Check.same("printLine", x.printLine(0, 0), 29);
        Check.same("printLine", Check.output(x), "the cat sat on the mat of the");
        Check.same("in place of what it had", x.printLine(0, 1), 7);
        Check.same("in place of what it had", Check.output(x), "zoo xyz");
        for (int bad : new int[] {Integer.MIN_VALUE, -1, 2, Integer.MAX_VALUE}) {
            Check.throwing("printLine of line " + bad, Check.INDEX, () -> x.printLine(0, bad));
        }
        for (int bad : new int[] {Integer.MIN_VALUE, -1, 1, Integer.MAX_VALUE}) {
            Check.throwing("printLine of work " + bad, Check.INDEX, () -> x.printLine(bad, 0));
        }
        Check.same("throwing leaves it", Check.output(x), "zoo xyz");
        Check.same("no change", x.count(8), 1);
    }

    private static void promise45PrintWork() {
        LineOffice x = Check.office("measure 10;stuff 2;distinct 2;");
        Check.submit(x, 0, VERSE, "the cat/abcdefghijkl/the cat/b b/a a b/c c");
        x.appeal(0, 2);
        x.appeal(0, 3);
        Check.same("printWork", x.printWork(0), 18);
        Check.same("printWork", Check.output(x), "7c 12c 7g 3l 5x 3x");
        for (int bad : new int[] {Integer.MIN_VALUE, -1, 1, Integer.MAX_VALUE}) {
            Check.throwing("printWork of " + bad, Check.INDEX, () -> x.printWork(bad));
        }
        StringBuilder many = new StringBuilder();
        for (int i = 0; i < 60; i++) {
            many.append(i > 0 ? " " : "").append("z");
        }
        Check.submit(x, 0, LIST, many.toString());
        Check.same("60 lines", x.printWork(1), 60 * 3 - 1);
        Check.same("60 lines", Check.output(x).substring(0, 11), "1c 1x 1x 1x");
        Check.same("the last byte", x.outputByte(178), 'x');
        Check.same("behind it", x.outputByte(179), -1);
    }

    private static void promise46PrintBalances() {
        LineOffice x = Check.office("");
        Check.same("printBalances", x.printBalances(), 11);
        Check.same("printBalances", Check.output(x), "ann=0 bob=0");
        x.advance(0, 10);
        Check.submit(x, 1, PROSE, "some words of bob");
        Check.add(x, "abcdef");
        Check.same("printBalances", x.printBalances(), 23);
        Check.same("printBalances", Check.output(x), "ann=-10 bob=10 abcdef=0");
        for (int i = 0; i < 20; i++) {
            x.endow(9999);
            x.advance(2, 999);
        }
        x.printBalances();
        Check.same("printBalances", Check.output(x), "ann=-10 bob=10 abcdef=-19980");
        Check.add(x, "b");
        Check.add(x, "c");
        Check.add(x, "d");
        Check.same("six of them", x.printBalances(), 40);
        x.undo();
        Check.same("undo leaves the output", x.outputByte(39), '0');
    }

    private static void promise47OutputByte() {
        LineOffice x = new LineOffice();
        Check.same("no output", x.outputByte(0), -1);
        x.printBalances();
        Check.same("byte 0", x.outputByte(0), 'a');
        Check.same("byte 1", x.outputByte(1), '=');
        Check.same("byte 2", x.outputByte(2), '0');
        for (int bad : new int[] {Integer.MIN_VALUE, -1, 3, 255, 256, 257, Integer.MAX_VALUE}) {
            Check.same("byte " + bad, x.outputByte(bad), -1);
        }
    }

    private static void promises48And49SavedState() {
        LineOffice x = Check.office("stuff 2;distinct 1;");
        Check.throwing("nothing is saved", Check.ELEMENT, x::restoreState);
        LineOffice fresh = new LineOffice();
        Check.throwing("nothing is saved in a new one", Check.ELEMENT, fresh::restoreState);
        Check.submit(x, 0, LIST, "one one one");
        x.pass(7);
        Check.same("saveState", x.saveState(), 7);
        Check.same("no change", x.count(8), 2);
        x.appeal(0, 1);
        Check.submit(x, 1, PROSE, "two");
        Check.add(x, "cid");
        x.set(0, 6);
        x.endow(9);
        x.advance(0, 3);
        x.pass(5);
        x.printBalances();
        String printed = Check.output(x);
        Check.load(x, "office");
        Check.give(x, "rest");
        Check.same("restoreState", x.restoreState(), 7);
        int[] counts = {2, 1, 3, 1, 7, 1000, 2, 0, 0};
        for (int i = 0; i < counts.length; i++) {
            Check.same("restored count " + i, x.count(i), counts[i]);
        }
        Check.same("restored balance", x.writer(0, 0), -2);
        Check.same("restored states", Check.states(x, 0), "cxx");
        Check.same("restored setting", x.setting(0), 20);
        Check.same("restored ledger", x.entry(1, 3), -4);
        Check.same("what was paid", x.writer(0, 7), 0);
        Check.throwing("nothing to undo", Check.ELEMENT, x::undo);
        Check.same("the error stays", x.errorOffset(), 6);
        Check.same("the output stays", Check.output(x), printed);
        Check.same("the buffer stays", x.truncateInput(4) ? 1 : 0, 1);
        x.pass(1);
        Check.same("it stays saved", x.restoreState(), 7);
        x.pass(2);
        Check.same("in place of an earlier one", x.saveState(), 9);
        Check.same("undo leaves the saved state", x.undo(), 0);
        Check.same("day", x.count(4), 7);
        Check.same("restoreState", x.restoreState(), 9);
        Check.same("a load that fails", Check.load(x, "office 1;"), -1);
        Check.same("leaves it saved", x.restoreState(), 9);
    }

    public static void main(String[] args) {
        promise35Submit();
        promise35Refused();
        payAndFines();
        promise36Appeal();
        promise37PayOut();
        promise38Advance();
        promise39AddWriter();
        promise40Endow();
        promise41Pass();
        promise42Set();
        promise43Undo();
        promise43MostChanges();
        promise44PrintLine();
        promise45PrintWork();
        promise46PrintBalances();
        promise47OutputByte();
        promises48And49SavedState();
        Check.end();
    }
}
