/** Each sentence of Terms 4 and of promises 1 to 6 that names a boundary case: a test of its own for each. */
public final class SetupBoundsTest {
    private static final String[] WORDS = {"measure", "stuff", "worn", "fine", "term", "distinct", "fee", "prose",
        "verse", "list"};
    private static final int[] LOWEST = {6, 2, 1, 0, 0, 1, 0, 0, 0, 0};
    private static final int[] HIGHEST = {30, 9, 99, 99, 30, 9, 99, 99, 99, 99};
    private static final int[] USUAL = {20, 3, 4, 2, 7, 3, 1, 10, 8, 5};
    private static final String ONE = "office 1;writer a;";
    private static final String SIX = "office 1;writer a;writer b;writer c;writer d;writer e;writer f;";

    private static void errs(String text, int code, int offset) {
        LineOffice x = new LineOffice();
        Check.same("load of '" + text + "'", Check.load(x, text), -1);
        Check.same("errorCode of '" + text + "'", x.errorCode(), code);
        Check.same("errorOffset of '" + text + "'", x.errorOffset(), offset);
    }

    private static LineOffice loads(String text, int writers) {
        LineOffice x = new LineOffice();
        Check.same("load of '" + text + "'", Check.load(x, text), writers);
        Check.same("errorCode of '" + text + "'", x.errorCode(), LineOffice.NO_ERROR);
        Check.same("errorOffset of '" + text + "'", x.errorOffset(), -1);
        return x;
    }

    private static String padded(String text, int length) {
        return text + " ".repeat(length - text.length());
    }

    private static void length(String what, LineOffice x, int due) {
        Check.same(what + ": above the length", x.truncateInput(due + 1) ? 1 : 0, 0);
        Check.same(what + ": the length", x.truncateInput(due) ? 1 : 0, 1);
    }

    // "The input buffer holds at most 600 bytes."
    private static void textsOf600Bytes() {
        loads(padded(ONE, 600), 1);
        loads(" ".repeat(600 - ONE.length()) + ONE, 1);
        errs(padded("office 1;writer a", 600), LineOffice.SYNTAX, 600);
        errs(padded(ONE, 599) + "x", LineOffice.SYNTAX, 599);
        errs(padded(ONE, 599) + "!", LineOffice.SYNTAX, 599);
        errs(padded("office 1;", 600), LineOffice.TOO_MANY, 600);
        errs(padded(SIX, 594) + "writer", LineOffice.TOO_MANY, 594);
        errs("a".repeat(600), LineOffice.SYNTAX, 0);
        errs("office " + "1".repeat(593), LineOffice.SYNTAX, 7);
        errs(ONE + ";".repeat(582), LineOffice.SYNTAX, 18);
    }

    // "The text is a sequence of statements, each followed by a semicolon"
    private static void semicolons() {
        errs("office 1", 1, 8);
        errs("office 1 writer a;", 1, 9);
        errs("office 1;writer a", 1, 17);
        errs("office 1;writer a writer b;", 1, 18);
        errs("office 1;writer a;fee 1", 1, 23);
        errs("office 1;writer a;fee 1 fine 1;", 1, 24);
        errs("office 1;;writer a;", 1, 9);
        errs(";office 1;writer a;", 1, 0);
        errs("office;1;writer a;", 1, 6);
        errs("office 1;writer;a;", 1, 15);
        errs("office 1;writer a;fee;1;", 1, 21);
        errs(ONE + ";", 1, 18);
    }

    // "office N the MONEY; the first statement, and only there"
    private static void officeIsTheFirstStatement() {
        Check.same("least MONEY", loads("office 0;writer a;", 1).count(5), 0);
        Check.same("most MONEY", loads("office 99999;writer a;", 1).count(5), 99999);
        errs("", 1, 0);
        errs("writer a;office 1;", 1, 0);
        errs("fee 1;office 1;writer a;", 1, 0);
        errs("1;writer a;", 1, 0);
        errs("offic 1;writer a;", 1, 0);
        errs("officee 1;writer a;", 1, 0);
        errs("office 1;office 1;writer a;", 1, 9);
        errs(ONE + "office 1;", 1, 18);
        errs(ONE + "office", 1, 18);
    }

    // "a writer, 1 to 6 in all; numbered from 0; names differ"
    private static void writers1To6() {
        String[] names = {"f", "e", "dd", "c", "bbbbbb", "a"};
        StringBuilder text = new StringBuilder("office 1;");
        StringBuilder told = new StringBuilder();
        for (int i = 0; i < 6; i++) {
            text.append("writer ").append(names[i]).append(";");
            told.append(i > 0 ? " " : "").append(names[i]).append("=0");
            LineOffice x = loads(text.toString(), i + 1);
            Check.same("writers", x.count(0), i + 1);
            x.printBalances();
            Check.same("numbered from 0", Check.output(x), told.toString());
        }
        errs(text + "writer g;", LineOffice.TOO_MANY, text.length());
        errs("office 1;", LineOffice.TOO_MANY, 9);
        loads("office 1;writer a;writer aa;writer b;writer ab;", 4);
        errs("office 1;writer a;writer a;", LineOffice.REPEATED, 25);
        errs("office 1;writer a;writer b;writer b;", LineOffice.REPEATED, 34);
        errs("office 1;writer a;fee 1;writer b;writer a;", LineOffice.REPEATED, 40);
    }

    // "a setting, at most once each", and what it is without its statement
    private static void settingsAtMostOnce() {
        LineOffice all = loads(ONE, 1);
        for (int i = 0; i < 10; i++) {
            Check.same("without a statement: " + WORDS[i], all.setting(i), USUAL[i]);
            String once = "office 1;" + WORDS[i] + " " + HIGHEST[i] + ";";
            LineOffice x = loads(once + "writer a;", 1);
            for (int j = 0; j < 10; j++) {
                Check.same(WORDS[i] + " told, " + WORDS[j], x.setting(j), j == i ? HIGHEST[i] : USUAL[j]);
            }
            errs(once + WORDS[i] + " " + HIGHEST[i] + ";", LineOffice.REPEATED, once.length());
            errs(once + "writer a;" + WORDS[i] + ";", LineOffice.REPEATED, once.length() + 9);
            errs(once + WORDS[i], LineOffice.REPEATED, once.length());
        }
    }

    // "MEASURE (6 to 30, 20 without it), STUFF (2 to 9, 3), .. RATE of the three kinds (0 to 99, 10, 8 and 5)"
    private static void settingsInTheirRanges() {
        for (int i = 0; i < 10; i++) {
            String ahead = "office 1;" + WORDS[i] + " ";
            Check.same("lowest " + WORDS[i], loads(ahead + LOWEST[i] + ";writer a;", 1).setting(i), LOWEST[i]);
            Check.same("highest " + WORDS[i], loads(ahead + HIGHEST[i] + ";writer a;", 1).setting(i), HIGHEST[i]);
            errs(ahead + (HIGHEST[i] + 1) + ";writer a;", LineOffice.OUT_OF_RANGE, ahead.length());
            errs(ahead + "99999;writer a;", LineOffice.OUT_OF_RANGE, ahead.length());
            if (LOWEST[i] > 0) {
                errs(ahead + (LOWEST[i] - 1) + ";writer a;", LineOffice.OUT_OF_RANGE, ahead.length());
                errs(ahead + "0;writer a;", LineOffice.OUT_OF_RANGE, ahead.length());
            }
            errs(ahead + "-1;writer a;", LineOffice.SYNTAX, ahead.length());
        }
    }

    // "NAME is a word of 1 to 6 letters, not one of those that stand in a statement above."
    private static void names() {
        for (int length = 1; length <= 6; length++) {
            loads("office 1;writer " + "uvwxyz".substring(6 - length) + ";", 1);
        }
        errs("office 1;writer tuvwxyz;", 1, 16);
        errs("office 1;writer abcdefghijkl;", 1, 16);
        errs("office 1;writer abcdefghijklm;", 1, 16);
        errs("office 1;writer ;", 1, 16);
        for (String word : WORDS) {
            errs("office 1;writer " + word + ";", 1, 16);
            errs(ONE + "writer " + word, 1, 25);
        }
        errs("office 1;writer office;", 1, 16);
        errs("office 1;writer writer;", 1, 16);
        for (String near : new String[] {"offic", "write", "stuf", "wornn", "fin", "terms", "fe", "feee", "pros",
            "vers", "lists", "measur", "distin", "name", "n"}) {
            loads("office 1;writer " + near + ";", 1);
        }
    }

    // "Tokens are words (maximal runs of the letters a to z), numbers (maximal runs of digits, 1 to 5 of them) and
    // semicolons."
    private static void tokens() {
        loads("office1;writer a;fee2;", 1);
        errs("office 1;writera;", 1, 9);
        errs("office 1;wri ter a;", 1, 9);
        errs("off ice 1;", 1, 0);
        errs("office 1 2;writer a;", 1, 9);
        errs("office 1a;writer a;", 1, 8);
        errs("office a1;writer a;", 1, 7);
        errs("office 1;writer a1;", 1, 17);
        errs("office 1;writer 1a;", 1, 16);
        errs("office 1;writer ab c;", 1, 19);
        errs("office 1;9fee 1;", 1, 9);
        errs("office 1;abcdefghijklmnop 1;", 1, 9);
    }

    private static void numbersOf1To5Digits() {
        String[] taken = {"7", "07", "007", "0007", "00007"};
        for (String number : taken) {
            LineOffice x = loads("office " + number + ";writer a;fee " + number + ";", 1);
            Check.same("MONEY of " + number, x.count(5), 7);
            Check.same("FEE of " + number, x.setting(6), 7);
        }
        Check.same("five times 0", loads("office 00000;writer a;", 1).count(5), 0);
        for (String number : new String[] {"000007", "000000", "100000", "999999", "4294967297", "18446744073709551617",
            "00000000000000000000000000000000000007"}) {
            errs("office " + number + ";writer a;", 1, 7);
            errs("office 1;fee " + number + ";writer a;", 1, 13);
        }
    }

    // "Spaces (32) and line feeds (10) may stand between tokens.", and "a byte that belongs to no token"
    private static void bytesBetweenTokens() {
        loads(" \n office \n 1 \n ; \n writer \n a \n ; \n fee \n 2 \n ; \n ", 1);
        for (int sign = 0; sign <= 255; sign++) {
            boolean isBlank = sign == 32 || sign == 10;
            boolean isLetter = sign >= 'a' && sign <= 'z';
            boolean isDigit = sign >= '0' && sign <= '9';
            byteAt("", sign, "office 1;writer a;", isBlank, 0);
            byteAt("office", sign, "1;writer a;", isBlank || isDigit, isLetter ? 0 : 6);
            byteAt("office 1", sign, ";writer a;", isBlank || isDigit, sign == ';' ? 9 : 8);
            byteAt("office 1;", sign, "writer a;", isBlank, 9);
            byteAt("office 1;writer a", sign, ";", isBlank || isLetter, sign == ';' ? 18 : 17);
            byteAt(ONE, sign, "", isBlank, 18);
        }
    }

    private static void byteAt(String ahead, int sign, String behind, boolean isTaken, int offset) {
        String text = ahead + (char) sign + behind;
        if (isTaken) {
            loads(text, 1);
        } else {
            errs(text, 1, offset);
        }
    }

    // "A text is parsed from left to right, and the first error met is reported, with an offset in bytes from 0"
    private static void firstErrorMet() {
        errs("office 1;fee 100;fee 1;writer office;!", 2, 13);
        errs("office 1;fee 1;fee 100;writer office;!", 3, 15);
        errs("office 1;writer office;fee 100;", 1, 16);
        errs("!office 1;", 1, 0);
        errs(SIX + "fee 100;writer g;", 2, 67);
        errs(SIX + "writer g;fee 100;", 4, 63);
        errs("office 1;fee 100", 2, 13);
    }

    // "if several errors apply to one token, the one with the smallest code"
    private static void smallestCodeOfOneToken() {
        errs("office 100000;", 1, 7);
        errs("office 1;fee 000100;", 1, 13);
        errs(ONE + "fee 1 fee 2;", 1, 24);
        errs(ONE + "writer b a;", 1, 27);
        errs("office 1;fee 1", 1, 14);
        errs("office 1;writer", 1, 15);
        errs("office 1", 1, 8);
        errs("", 1, 0);
        errs(" ", 1, 1);
        errs(SIX + "fee writer g;", 1, 67);
        errs("office 1;worn 99 worn 0;", 1, 17);
    }

    // "SYNTAX: a token that cannot stand at its place (also the end of an empty text), .. or the end of the text where
    // more is required. The offset is that of the first byte of the token, or the length of the text."
    private static void endsOfTexts() {
        errs("", 1, 0);
        errs("\n", 1, 1);
        errs(" \n ", 1, 3);
        errs("o", 1, 0);
        String all = "office 12;writer abc;measure 9;";
        for (int length = 0; length < all.length(); length++) {
            String text = all.substring(0, length);
            boolean isCutWord = length > 0 && length < 6 || length > 10 && length < 16 || length > 21 && length < 28;
            int start = length < 10 ? 0 : length < 21 ? 10 : 21;
            if (length == 10) {
                errs(text, LineOffice.TOO_MANY, 10);
            } else if (length == 21) {
                loads(text, 1);
            } else {
                errs(text, LineOffice.SYNTAX, isCutWord ? start : length);
                errs(text + " \n", LineOffice.SYNTAX, isCutWord ? start : length + 2);
            }
        }
        loads(all, 1);
    }

    // "OUT_OF_RANGE: a number that is out of its range."
    private static void rangesAreThoseOfTheNumbers() {
        errs("office 1;measure 5;", 2, 17);
        errs("office 1;measure 31;", 2, 17);
        errs("office 1;measure   00031 ;", 2, 19);
        errs("office 1;worn 100", 2, 14);
        errs("office 99999;worn 00000;", 2, 18);
        loads("office 99999;worn 00099;writer a;", 1);
    }

    // "REPEATED: the name of a writer told again; the first word of a setting told again."
    private static void repeatedAtTheToken() {
        errs("office 1;writer ab;writer  ab ;", 3, 27);
        errs("office 1;writer ab;writer ab", 3, 26);
        errs("office 1;fee 1; fee", 3, 16);
        errs("office 1;fee 1;\nfee fee", 3, 16);
        errs("office 1;fee 1;fine 1;fee 100;", 3, 22);
        loads("office 1;writer ab;writer abc;writer b;fee 1;fine 1;", 3);
    }

    // "TOO_MANY: the first word of a 7th writer; the end of a text without a writer (at its length)."
    private static void tooManyWriters() {
        loads(SIX, 6);
        errs(SIX + " writer g;", 4, 64);
        errs(SIX + "writer", 4, 63);
        errs(SIX + "writer a;", 4, 63);
        errs(SIX + "writer !", 4, 63);
        errs(SIX + "fee 1;writer g;", 4, 69);
        errs("office 1;", 4, 9);
        errs("office 1;\n", 4, 10);
        errs("office 1;fee 1;", 4, 15);
        errs("office 1;fee 1;  ", 4, 17);
    }

    // "An error changes nothing but the input buffer and the reported error."
    private static void errorsChangeNothing() {
        String[] texts = {"", "office 7;", "office 5;writer q;writer r;measure 7;list 7;fee 77",
            "office 5;writer q;fee 100;", "office 5;writer q;writer q;", SIX + "writer g;", "!"};
        for (String text : texts) {
            Whole.untouched("failed load of '" + text + "'", Whole.BUFFER | Whole.ERROR, Whole::busy,
                    x -> Check.load(x, text));
            Whole.untouched("failed load of '" + text + "' on a new one", Whole.BUFFER | Whole.ERROR, LineOffice::new,
                    x -> Check.load(x, text));
        }
    }

    // "A successful load replaces everything but the output: the day is 0, there are no works and entries, nothing can
    // be undone, and no state is saved."
    private static void loadsReplaceAll() {
        String text = "office 5;writer q;writer r;list 9;";
        Whole.same("load of a busy one and of a new one", Whole.OUTPUT,
                () -> Whole.done(Whole::busy, x -> Check.load(x, text)),
                () -> Whole.done(LineOffice::new, x -> Check.load(x, text)));
        LineOffice x = Whole.busy();
        String output = Check.output(x);
        Check.load(x, text);
        Check.same("the output stays", Check.output(x), output);
        Check.same("day", x.count(4), 0);
        Check.same("works", x.count(1), 0);
        Check.same("entries", x.count(6), 0);
        Check.same("changes", x.count(8), 0);
        Check.throwing("undo", Check.ELEMENT, x::undo);
        Check.throwing("restoreState", Check.ELEMENT, x::restoreState);
        Check.throwing("a work from before", Check.INDEX, () -> x.work(0, 0));
        Check.submit(x, 0, LineOffice.LIST, "cat the");
        Check.same("no past from before", Check.reasons(x, 0), "00");
        x.pass(1);
        Check.same("changes", x.count(8), 2);
        x.undo();
        Check.same("undone to the load", x.undo(), 0);
        Check.same("undone to the load", x.count(1), 0);
        Check.same("saved behind the load", x.saveState(), 0);
        Check.load(x, ONE);
        Check.throwing("not saved behind another load", Check.ELEMENT, x::restoreState);
    }

    // Promise 1: "an office with one writer, named a, without MONEY, all settings as without statements for them, and
    // an empty input buffer"
    private static void aNewObject() {
        Whole.same("a new object and a load of the same", 0, LineOffice::new,
                () -> Whole.done(LineOffice::new, x -> Check.load(x, "office 0;writer a;")));
        LineOffice x = new LineOffice();
        length("new buffer", x, 0);
        Check.same("no output", x.outputByte(0), -1);
        Check.throwing("nothing to undo", Check.ELEMENT, x::undo);
        Check.throwing("nothing is saved", Check.ELEMENT, x::restoreState);
        Check.throwing("one writer", Check.INDEX, () -> x.writer(1, 0));
        Check.throwing("no work", Check.INDEX, () -> x.work(0, 0));
        Check.throwing("no entry", Check.INDEX, () -> x.entry(0, 0));
        Check.same("the name is taken", Check.add(x, "a"), LineOffice.WRONG);
    }

    // Promise 2: "the most significant byte first"
    private static void bytesOfTheNumbers() {
        LineOffice x = new LineOffice();
        x.appendInput(0x61626364, 0x65666768, 0x696a6b20, 0x6c6d6e6f, 0x70717273);
        x.submit(0, LineOffice.LIST, 20);
        Check.same("20 bytes", Check.lines(x, 0), "abcdefghijk|lmnopqrs");
        int[][] odd = {{0xff616161, 0}, {0x80616161, 0}, {0x61ff6161, 1}, {0x61616180, 3}, {0x00616161, 0}, {-1, 0}};
        for (int[] four : odd) {
            LineOffice y = new LineOffice();
            Check.same("length", y.appendInput(four[0], four[0], 0, 0, 0), 20);
            Check.same("up to the odd byte", y.wouldCount(0, 0, four[1]), four[1] == 0 ? -1 : 1);
            Check.same("with the odd byte", y.wouldCount(0, 0, four[1] + 1), -1);
        }
    }

    // Promise 2: "Returns the new length of the input buffer; -1, with no change, if it would exceed 600."
    private static void appendingUpTo600() {
        LineOffice x = new LineOffice();
        for (int i = 20; i <= 600; i += 20) {
            Check.same("new length", x.appendInput(0, 0, 0, 0, 0), i);
        }
        Check.same("601 and more", x.appendInput(1, 1, 1, 1, 1), -1);
        length("600 bytes", x, 600);
        for (int length = 581; length <= 600; length++) {
            LineOffice y = new LineOffice();
            Check.give(y, padded("office 1;writer a;", length - 9) + "writer q;");
            Check.same("append at " + length, y.appendInput(-1, 0x3b3b3b3b, 0, 1, 2), -1);
            length("refused at " + length, y, length);
            Check.same("no change at " + length, y.loadOffice(), 2);
        }
        LineOffice z = new LineOffice();
        Check.give(z, padded("office 1;writer a;", 580));
        Check.same("append at 580", z.appendInput(0x20202020, 0x20202077, 0x72697465, 0x7220717a, 0x3b202020), 600);
        Check.same("load of 600 bytes", z.loadOffice(), 2);
        Check.same("append behind the load", z.appendInput(0, 0, 0, 0, 0), 20);
    }

    // Promise 3: "Returns true; false, with no change, if length is negative or greater than the current length."
    private static void truncating() {
        LineOffice x = new LineOffice();
        length("empty buffer", x, 0);
        Check.give(x, "abc def ghi");
        for (int bad : new int[] {Integer.MIN_VALUE, -600, -1, 12, 600, 601, Integer.MAX_VALUE}) {
            Check.same("truncated to " + bad, x.truncateInput(bad) ? 1 : 0, 0);
        }
        Check.same("no change", x.wouldCount(0, LineOffice.LIST, 11), 3);
        length("no change", x, 11);
        Check.same("the same length", x.wouldCount(0, LineOffice.LIST, 11), 3);
        Check.same("one less", x.truncateInput(10) ? 1 : 0, 1);
        length("one less", x, 10);
        x.truncateInput(3);
        length("three", x, 3);
        Check.give(x, "xyz");
        x.submit(0, LineOffice.LIST, 6);
        Check.same("further bytes stand behind those that stay", Check.lines(x, 0), "abcxyz");
        Check.give(x, "abc");
        Check.same("truncated to 0", x.truncateInput(0) ? 1 : 0, 1);
        length("truncated to 0", x, 0);
        for (int i = 0; i < 30; i++) {
            x.appendInput(0, 0, 0, 0, 0);
        }
        length("a full one", x, 600);
    }

    // Promise 4: "empties the buffer, whether the load succeeds or not. Returns the number of writers; -1 if there is
    // an error."
    private static void loadsEmptyTheBuffer() {
        String[] texts = {ONE, SIX, "office 1;", "!", "office 1;writer a;fee 100;writer b;", ""};
        int[] due = {1, 6, -1, -1, -1, -1};
        for (int i = 0; i < texts.length; i++) {
            String text = texts[i];
            LineOffice x = new LineOffice();
            Check.same("load of '" + text + "'", Check.load(x, text), due[i]);
            length("behind '" + text + "'", x, 0);
            Check.same("load of what is left", x.loadOffice(), -1);
            Check.same("its offset", x.errorOffset(), 0);
        }
    }

    // what a load told is forgotten by the next one
    private static void loadsForgetWhatWasTold() {
        StringBuilder settings = new StringBuilder();
        for (int i = 0; i < 10; i++) {
            settings.append(WORDS[i]).append(' ').append(HIGHEST[i]).append(';');
        }
        LineOffice x = new LineOffice();
        Check.same("all settings", Check.load(x, "office 9;writer a;writer b;" + settings), 2);
        Check.same("all settings again", Check.load(x, "office 9;writer a;writer b;" + settings), 2);
        Check.same("all settings, and a fault", Check.load(x, "office 9;writer a;writer b;" + settings + "!"), -1);
        Check.same("all settings behind a fault", Check.load(x, "office 9;writer a;writer b;" + settings), 2);
        Check.same("no settings", Check.load(x, "office 8;writer b;"), 1);
        Whole.same("a load behind others", 0,
                () -> Whole.done(LineOffice::new, y -> {
                    Check.load(y, "office 9;writer a;writer b;" + settings + "!");
                    Check.load(y, "office 9;writer a;writer b;" + settings);
                    Check.load(y, "office 8;writer b;");
                }), () -> Whole.done(LineOffice::new, y -> Check.load(y, "office 8;writer b;")));
    }

    // Promises 5 and 6: "the error of the latest call of loadOffice", "NO_ERROR if that call succeeded or there was no
    // call", "-1 if errorCode() is NO_ERROR"
    private static void errorOfTheLatestLoad() {
        LineOffice x = new LineOffice();
        int[][] due = {{0, -1}, {1, 0}, {2, 13}, {0, -1}, {4, 9}, {3, 15}, {1, 8}, {0, -1}};
        String[] texts = {null, "x", "office 1;fee 100;", ONE, "office 1;", "office 1;fee 1;fee 1;", "office 1", SIX};
        for (int i = 0; i < due.length; i++) {
            if (texts[i] != null) {
                Check.load(x, texts[i]);
            }
            for (int again = 0; again < 2; again++) {
                Check.same("errorCode behind " + texts[i], x.errorCode(), due[i][0]);
                Check.same("errorOffset behind " + texts[i], x.errorOffset(), due[i][1]);
                // what is no load leaves them as they are, also if it is refused
                Check.submit(x, 0, 0, again == 0 ? "some words" : "7");
                Check.add(x, "office");
                x.saveState();
                x.restoreState();
                Check.throwing("refused", Check.ARGUMENT, () -> x.endow(0));
            }
        }
    }

    private static void statements() {
        textsOf600Bytes();
        semicolons();
        officeIsTheFirstStatement();
        writers1To6();
        settingsAtMostOnce();
        settingsInTheirRanges();
        names();
        tokens();
        numbersOf1To5Digits();
        bytesBetweenTokens();
    }

    private static void errors() {
        firstErrorMet();
        smallestCodeOfOneToken();
        endsOfTexts();
        rangesAreThoseOfTheNumbers();
        repeatedAtTheToken();
        tooManyWriters();
        errorsChangeNothing();
        loadsReplaceAll();
    }

    public static void main(String[] args) {
        statements();
        errors();
        aNewObject();
        bytesOfTheNumbers();
        appendingUpTo600();
        truncating();
        loadsEmptyTheBuffer();
        loadsForgetWhatWasTold();
        errorOfTheLatestLoad();
        Check.end();
    }
}
