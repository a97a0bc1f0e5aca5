/** Each sentence of Terms 1 to 3 that names a boundary case, in the document's order: a test of its own for each. */
public final class TermsBoundsTest {
    private static final int PROSE = LineOffice.PROSE;
    private static final int VERSE = LineOffice.VERSE;
    private static final int LIST = LineOffice.LIST;
    private static final int[] KINDS = {PROSE, VERSE, LIST};
    private static final int[] BROKEN_KINDS = {PROSE, VERSE};
    private static final String LETTERS = "abcdefghijklmnopqrstuvwxyz";

    private static void breaks(int measure, int kind, String text, String due) {
        LineOffice x = Check.office("measure " + measure + ";stuff 9;worn 99;");
        int work = Check.submit(x, 0, kind, text);
        Check.same("lines of '" + text + "' by " + measure, work == 0 ? Check.lines(x, 0) : "answer " + work, due);
    }

    private static void breaksInProseAndVerse(int measure, String text, String due) {
        for (int kind : BROKEN_KINDS) {
            breaks(measure, kind, text, due);
        }
    }

    /** The reasons of the last one of some works of verse, all of the same writer. */
    private static void judges(String settings, String due, String... texts) {
        LineOffice x = Check.office("measure 30;" + settings);
        int work = 0;
        for (String text : texts) {
            work = Check.submit(x, 0, VERSE, text);
        }
        Check.same("reasons by " + settings + " of " + String.join(" ## ", texts), Check.reasons(x, work), due);
    }

    /** Whether a text can be read as a work, as submit, wouldCount and wouldPay tell it. */
    private static void readable(int kind, String text, boolean due) {
        LineOffice x = Check.office("fine 0;");
        Check.give(x, text);
        String what = "of '" + text + "' in kind " + kind;
        Check.same("wouldCount " + what, x.wouldCount(0, kind, text.length()) > 0 ? 1 : 0, due ? 1 : 0);
        Check.same("wouldPay " + what, x.wouldPay(0, kind, text.length()) > 0 ? 1 : 0, due ? 1 : 0);
        Check.same("submit " + what, x.submit(0, kind, text.length()), due ? 0 : LineOffice.WRONG);
    }

    // "An object is used for at most 512 calls after it has been made"
    private static void call512IsAnsweredAsTheOthers() {
        LineOffice x = new LineOffice();
        for (int i = 1; i <= 511; i++) {
            x.pass(1);
        }
        Check.same("call 512", x.pass(1), 512);
    }

    // "A word has 1 to 12 letters"
    private static void wordsOf1To12Letters() {
        for (int kind : KINDS) {
            for (int length = 1; length <= 12; length++) {
                String word = LETTERS.substring(26 - length);
                readable(kind, word, true);
                LineOffice x = new LineOffice();
                Check.submit(x, 0, kind, "q " + word + "\nr");
                Check.same("letters of " + word, x.letters(0, 1), length);
                Check.same("uses of " + word, Check.uses(x, 0, word), 1);
            }
            readable(kind, LETTERS.substring(0, 13), false);
            readable(kind, "a " + LETTERS.substring(0, 13), false);
            readable(kind, LETTERS.substring(0, 13) + " a", false);
            readable(kind, LETTERS, false);
            readable(kind, "zzzzzzzzzzzz zzzzzzzzzzzz", true);
        }
        readable(VERSE, "zzzzzzzzzzzz/zzzzzzzzzzzz", true);
        readable(VERSE, "zzzzzzzzzzzz/zzzzzzzzzzzzz", false);
    }

    // "(a to z)", and "these are letters, spaces and line feeds (which separate words), and slashes in verse"
    private static void bytesOfAWork() {
        for (int sign = 0; sign <= 255; sign++) {
            boolean isLetter = sign >= 'a' && sign <= 'z';
            boolean isBlank = sign == 32 || sign == 10;
            for (int kind : KINDS) {
                readable(kind, "" + (char) sign, isLetter);
                readable(kind, "a" + (char) sign + "b", isLetter || isBlank || sign == '/' && kind == VERSE);
            }
        }
        breaks(30, LIST, "abcdefghijkl mnopqrstuvwx\nyz", "abcdefghijkl|mnopqrstuvwx|yz");
        breaks(30, LIST, "\n a  b\n\nc \n", "a|b|c");
    }

    // "a work has 1 to 60 words"
    private static void worksOf1To60Words() {
        for (int kind : KINDS) {
            readable(kind, "", false);
            readable(kind, " ", false);
            readable(kind, "\n \n", false);
            readable(kind, "a", true);
            readable(kind, Check.words(0, 59, " "), true);
            readable(kind, Check.words(0, 60, " "), true);
            readable(kind, Check.words(0, 61, " "), false);
            readable(kind, "a ".repeat(61), false);
            LineOffice x = Check.office("");
            Check.submit(x, 0, kind, Check.words(0, 60, "\n"));
            Check.same("words of kind " + kind, x.work(0, 3), 60);
            Check.same("last word of kind " + kind, Check.uses(x, 0, "ach"), 1);
        }
        readable(VERSE, "/", false);
        readable(VERSE, Check.words(0, 60, "/"), true);
        readable(VERSE, Check.words(0, 61, "/"), false);
    }

    // "The width of a row of words is the number of their letters, and 1 for each blank between two."
    private static void widthsOfOneWordAndMore() {
        LineOffice x = Check.office("measure 30;");
        Check.submit(x, 0, VERSE, "a/ab/a b/ab cde/a b c/abcdefghijkl abcdefghijkl abcd/ z /y  \n\n z/yz");
        int[] due = {1, 2, 3, 6, 5, 30, 1, 3, 2};
        for (int i = 0; i < due.length; i++) {
            Check.same("width of line " + i, x.line(0, i, 2), due[i]);
        }
    }

    // "a line begins with the next word, and takes further ones as long as its width is not above MEASURE then"
    private static void linesOfJustMeasureAndOneAbove() {
        breaksInProseAndVerse(6, "abc de", "abc de");
        breaksInProseAndVerse(6, "abc def", "abc|def");
        breaksInProseAndVerse(6, "aa b c", "aa b c");
        breaksInProseAndVerse(6, "aa b cc", "aa b|cc");
        breaksInProseAndVerse(7, "aa b cc", "aa b cc");
        breaksInProseAndVerse(7, "abc def", "abc def");
        breaksInProseAndVerse(7, "abcd def g", "abcd|def g");
        breaksInProseAndVerse(20, "abcdefghijkl abcdefg", "abcdefghijkl abcdefg");
        breaksInProseAndVerse(20, "abcdefghijkl abcdefgh", "abcdefghijkl|abcdefgh");
        breaksInProseAndVerse(29, "abcdefghijkl abcdefghijkl abc", "abcdefghijkl abcdefghijkl abc");
        breaksInProseAndVerse(29, "abcdefghijkl abcdefghijkl abcd", "abcdefghijkl abcdefghijkl|abcd");
        breaksInProseAndVerse(30, "abcdefghijkl abcdefghijkl abcd", "abcdefghijkl abcdefghijkl abcd");
        breaksInProseAndVerse(30, "abcdefghijkl abcdefghijkl abcde", "abcdefghijkl abcdefghijkl|abcde");
        breaksInProseAndVerse(30, "a ".repeat(15) + "b", "a a a a a a a a a a a a a a a|b");
        breaksInProseAndVerse(6, "a b c d e f g", "a b c|d e f|g");
    }

    // "(A word that is wider stands alone.)"
    private static void wordsWiderThanMeasure() {
        breaksInProseAndVerse(6, "abcdefg", "abcdefg");
        breaksInProseAndVerse(6, "a abcdefg b c", "a|abcdefg|b c");
        breaksInProseAndVerse(6, "abcdefg abcdefghijkl", "abcdefg|abcdefghijkl");
        breaksInProseAndVerse(6, "a abcdef b c", "a|abcdef|b c");
        breaksInProseAndVerse(11, "a abcdefghijkl b", "a|abcdefghijkl|b");
        breaksInProseAndVerse(12, "a abcdefghijkl b", "a|abcdefghijkl|b");
        breaksInProseAndVerse(13, "abcdefghijkl b", "abcdefghijkl|b");
        breaksInProseAndVerse(14, "abcdefghijkl b", "abcdefghijkl b");
        LineOffice x = Check.office("measure 6;");
        Check.submit(x, 0, PROSE, "abcdefghijkl");
        Check.same("width above MEASURE", x.line(0, 0, 2), 12);
    }

    // "In verse a line also ends where a slash stands (slashes without a word between them make no lines)."
    private static void slashes() {
        String[] one = {"ab", "/ab", "ab/", "//ab//", " / ab / ", "/\n/ab/\n/"};
        for (String text : one) {
            breaks(30, VERSE, text, "ab");
        }
        String[] two = {"a/b", "a//b", "a/ /b", "a /b", "a/ b", "a / b", "a\n/\n//\nb", "/a/b/"};
        for (String text : two) {
            breaks(30, VERSE, text, "a|b");
        }
        breaks(30, VERSE, "a b/c d e//f", "a b|c d e|f");
        breaks(6, VERSE, "abcdef/g h", "abcdef|g h");
        breaks(6, VERSE, "abcdefg/h", "abcdefg|h");
        breaks(6, VERSE, "ab cd ef/g", "ab cd|ef|g");
        breaks(30, VERSE, "ab c", "ab c");
        readable(VERSE, "///", false);
        readable(PROSE, "a/b", false);
        readable(LIST, "a/b", false);
    }

    // "In a list each word is a line."
    private static void listsAreBrokenByWords() {
        breaks(30, LIST, "a b c", "a|b|c");
        breaks(6, LIST, "a abcdefghijkl b", "a|abcdefghijkl|b");
        breaks(30, LIST, "a", "a");
        LineOffice x = Check.office("");
        Check.submit(x, 0, LIST, Check.words(0, 60, " "));
        Check.same("lines of a list of 60", x.work(0, 4), 60);
    }

    // "Lines are made once, as the work is handed in; they stay as they are if MEASURE changes."
    private static void linesStayIfMeasureChanges() {
        LineOffice x = Check.office("measure 10;");
        Check.submit(x, 0, PROSE, "the cat sat on the mat");
        for (int measure : new int[] {6, 30}) {
            x.set(0, measure);
            Check.same("lines behind MEASURE " + measure, Check.lines(x, 0), "the cat|sat on the|mat");
            Check.same("width behind MEASURE " + measure, x.line(0, 1, 2), 10);
            Check.same("pay behind MEASURE " + measure, x.line(0, 2, 5), 5);
            Check.same("mean behind MEASURE " + measure, x.meanWidth(0), 20.0 / 3.0);
            Check.same("widest behind MEASURE " + measure, x.widest(0), 1);
        }
        x.undo();
        x.undo();
        Check.same("lines behind undoing", Check.lines(x, 0), "the cat|sat on the|mat");
    }

    // "those ahead of it, of this work and of earlier works of the same writer, that count then are its past"
    private static void pastIsEmptyAtFirst() {
        judges("stuff 2;worn 1;", "0", "a");
        judges("stuff 2;worn 1;", "0", "a b c");
        LineOffice x = Check.office("worn 1;stuff 2;");
        Check.submit(x, 0, LIST, "a b");
        Check.submit(x, 1, LIST, "a b");
        Check.same("another writer's lines are no past", Check.reasons(x, 1), "00");
        Check.submit(x, 0, LIST, "b a");
        Check.same("behind another writer's work", Check.reasons(x, 2), "11");
        x.undo();
        x.undo();
        x.undo();
        Check.submit(x, 0, LIST, "a b");
        Check.same("works that were undone are no past", Check.reasons(x, 0), "00");
    }

    private static void pastIsAheadAlone() {
        judges("worn 1;stuff 2;", "003", "a/b/b a");
        judges("worn 1;stuff 2;", "011", "a b/a b/a b");
        judges("worn 2;stuff 2;", "000", "a b/a/a c");
        judges("worn 9;stuff 9;", "01", "a/b", "c/b");
        judges("worn 9;stuff 9;", "10", "a/b", "c", "a/d");
    }

    private static void pastIsOfAllKinds() {
        LineOffice x = Check.office("measure 30;worn 1;stuff 9;");
        Check.submit(x, 0, PROSE, "a b");
        Check.submit(x, 0, LIST, "a c");
        Check.submit(x, 0, VERSE, "a b/c/b/b d");
        Check.same("stale by prose and by a list, worn by prose", Check.reasons(x, 2), "1130");
        Check.submit(x, 0, PROSE, "b d");
        Check.same("stale by verse", Check.reasons(x, 3), "1");
    }

    // "that count then"
    private static void pastIsWhatCountsThen() {
        judges("stuff 2;worn 9;", "22", "a a/a a");
        judges("stuff 2;worn 9;", "2", "a a", "a a");
        judges("stuff 2;worn 1;", "20", "a a/a");
        LineOffice x = Check.office("stuff 2;worn 9;distinct 1;fine 0;fee 1;");
        Check.submit(x, 0, VERSE, "a a/b b");
        Check.submit(x, 0, VERSE, "a a/b b");
        x.appeal(0, 0);
        x.set(5, 9);
        Check.same("an appeal that is lost", x.appeal(0, 1), 0);
        Check.same("lines that were judged stay", Check.reasons(x, 1), "22");
        Check.submit(x, 0, VERSE, "a a/b b");
        Check.same("one counts by an appeal, one does not", Check.reasons(x, 2), "12");
        x.undo();
        x.undo();
        x.undo();
        x.undo();
        Check.submit(x, 0, VERSE, "a a/b b");
        Check.same("the appeal is undone", Check.reasons(x, 2), "22");
    }

    // "A line is caught for the first of these reasons, otherwise it counts"
    private static void firstOfTheReasons() {
        LineOffice x = Check.office("measure 30;stuff 9;worn 9;");
        Check.submit(x, 0, VERSE, "a a/a b/b c");
        x.set(1, 2);
        x.set(2, 1);
        Check.submit(x, 0, VERSE, "a a/b b/c b/c d");
        Check.same("all three, the last two, the last one, none", Check.reasons(x, 1), "1230");
        x.set(1, 9);
        x.set(2, 9);
        Check.submit(x, 0, VERSE, "a a/b b");
        Check.same("stale alone, none", Check.reasons(x, 2), "10");
        Check.same("states", Check.states(x, 1) + Check.states(x, 2), "xxxcxc");
    }

    // "stale: a line of its past has the same words in the same order"
    private static void staleBySameWordsAlone() {
        judges("worn 99;stuff 9;", "01", "a/a");
        judges("worn 99;stuff 9;", "01", "a b c/a b c");
        judges("worn 99;stuff 9;", "00", "a b/b a");
        judges("worn 99;stuff 9;", "000", "a b/a b c/a");
        judges("worn 99;stuff 9;", "000", "b c/a b c/c");
        judges("worn 99;stuff 9;", "000", "ab c/a bc/abc");
        judges("worn 99;stuff 9;", "000", "a b c/a c c/c b c");
        judges("worn 99;stuff 9;", "000", "a b b/a a b/a b");
        judges("worn 99;stuff 9;", "00", "abcdefghijkl/abcdefghijk");
        judges("worn 99;stuff 9;", "00", "abcdefghijkl/bbcdefghijkl");
        judges("worn 99;stuff 9;", "01", "abcdefghijkl abcdefghijkl abcd/abcdefghijkl\nabcdefghijkl  abcd");
    }

    // "stuffed: some word stands in it STUFF times or more"
    private static void stuffedByStuffTimes() {
        for (int stuff = 2; stuff <= 9; stuff++) {
            String settings = "worn 99;stuff " + stuff + ";";
            judges(settings, "0", "a ".repeat(stuff - 1));
            judges(settings, "2", "a ".repeat(stuff));
            judges(settings, "2", "a ".repeat(stuff + 1));
            judges(settings, "2", "b" + " a".repeat(stuff));
            judges(settings, "2", "a b" + " a".repeat(stuff - 1));
            judges(settings, stuff <= 8 ? "0" : "00", "a b ".repeat(stuff - 1));
        }
        judges("worn 99;stuff 2;", "000", "a b c/a c b/aa a aaa");
        judges("worn 99;stuff 9;", "0", "a a a a a a a a b b b b b b b");
    }

    // "worn: each of its words stands in WORN lines of its past or more"
    private static void wornByWornLines() {
        judges("stuff 9;worn 1;", "003", "a b/c/b c");
        judges("stuff 9;worn 1;", "000", "a b/c/b c d");
        judges("stuff 9;worn 1;", "0000", "a b/c/d b c/e c d b");
        judges("stuff 9;worn 4;", "0000", "a b/a c/a d/a");
        judges("stuff 9;worn 4;", "00003", "a b/a c/a d/a e/a");
        judges("stuff 9;worn 4;", "000003", "a b/a c/a d/a e/a f/a");
        judges("stuff 9;worn 2;", "00003", "a b/b c/c d/c e/c b");
        judges("stuff 9;worn 2;", "00000", "a b/b c/c d/e e/c b e");
        // no line has more than 15 words
        judges("stuff 9;worn 1;", "03", "a b c d e f g h i j k l m n o/o n m l k j i h g f e d c b a");
        judges("stuff 9;worn 1;", "00", "a b c d e f g h i j k l m n o/o n m l k j i h g f e d c b z");
    }

    private static void wornBy99Lines() {
        LineOffice x = Check.office("measure 30;stuff 9;worn 99;");
        for (int i = 0; i < 98; i += 14) {
            Check.submit(x, 0, VERSE, Check.words(i, 14, " q/"));
        }
        Check.same("98 lines that count", Check.uses(x, 0, "q"), 98);
        Check.submit(x, 0, VERSE, "q/q q/q q q");
        Check.same("98 lines and 99, which are no more than that", Check.reasons(x, 7), "033");
    }

    // "(in each line counted once)"
    private static void wornCountsALineOnce() {
        judges("stuff 9;worn 2;", "00", "a a/a");
        judges("stuff 9;worn 2;", "000", "a a b/c/a");
        judges("stuff 9;worn 2;", "003", "a a b/a c/a");
        judges("stuff 9;worn 2;", "003", "a b/a c/a a a");
    }

    // "A line that counts pays RATE of its kind; if twice its width is less than MEASURE, RATE / 2, cut"
    private static void payOfAWidth(int measure, int width, int due) {
        String text = width > 12 ? "abcdefghijkl " + LETTERS.substring(0, width - 13) : LETTERS.substring(0, width);
        for (int kind : width > 12 ? BROKEN_KINDS : KINDS) {
            LineOffice x = Check.office("measure " + measure + ";prose 21;verse 21;list 21;");
            Check.submit(x, 0, kind, text);
            Check.same("width", x.line(0, 0, 2), width);
            Check.same("pay of width " + width + " by " + measure, x.line(0, 0, 5), due);
            Check.same("balance by it", x.writer(0, 0), due);
        }
    }

    private static void payByTwiceTheWidth() {
        payOfAWidth(6, 2, 10);
        payOfAWidth(6, 3, 21);
        payOfAWidth(7, 3, 10);
        payOfAWidth(7, 4, 21);
        payOfAWidth(20, 1, 10);
        payOfAWidth(20, 9, 10);
        payOfAWidth(20, 10, 21);
        payOfAWidth(21, 10, 10);
        payOfAWidth(21, 11, 21);
        payOfAWidth(29, 14, 10);
        payOfAWidth(29, 15, 21);
        payOfAWidth(30, 14, 10);
        payOfAWidth(30, 15, 21);
        payOfAWidth(6, 12, 21);
    }

    // "RATE / 2, cut"
    private static void halfOfRateIsCut() {
        int[] rates = {0, 1, 2, 3, 98, 99};
        int[] halves = {0, 0, 1, 1, 49, 49};
        for (int i = 0; i < rates.length; i++) {
            LineOffice x = Check.office("prose " + rates[i] + ";verse " + rates[i] + ";list " + rates[i] + ";");
            for (int kind : KINDS) {
                Check.submit(x, 0, kind, "abcdefghij");
                Check.submit(x, 1, kind, "abcdefghi");
            }
            for (int work = 0; work < 6; work++) {
                Check.same("pay by RATE " + rates[i], x.line(work, 0, 5), work % 2 == 0 ? rates[i] : halves[i]);
            }
        }
        LineOffice x = Check.office("prose 11;verse 33;list 55;");
        for (int kind : KINDS) {
            Check.submit(x, 0, kind, LETTERS.substring(kind, kind + 10) + (kind == VERSE ? "/b" : " b"));
        }
        Check.same("RATE of prose", x.line(0, 0, 5), 11);
        Check.same("RATE of verse", x.line(1, 0, 5), 33);
        Check.same("half of RATE of verse", x.line(1, 1, 5), 16);
        Check.same("RATE of a list", x.line(2, 0, 5), 55);
        Check.same("half of RATE of a list", x.line(2, 1, 5), 27);
    }

    // "(MEASURE and RATE as they are when the work is handed in; this is what it pays for good, also if it counts
    // later)"
    private static void payIsForGood() {
        LineOffice x = Check.office("measure 6;stuff 2;prose 7;fine 0;distinct 1;");
        Check.submit(x, 0, PROSE, "a a");
        x.set(0, 30);
        x.set(7, 99);
        Check.same("pays what it paid", x.line(0, 0, 5), 7);
        x.appeal(0, 0);
        Check.same("comes to the balance", x.writer(0, 0), 7);
        Check.same("pays what it paid", x.work(0, 6), 7);
        Check.submit(x, 0, PROSE, "b c");
        Check.same("pays by now", x.line(1, 0, 5), 49);
    }

    // "The office has MONEY (0 to 99999)."
    private static void moneyFrom0To99999() {
        LineOffice x = new LineOffice();
        Check.load(x, "office 99999;writer a;");
        Check.same("MONEY", x.count(5), 99999);
        Check.same("endowed", x.endow(1), 99999);
        Check.load(x, "office 0;writer a;");
        Check.same("MONEY", x.count(5), 0);
        Check.throwing("advance of none", Check.STATE, () -> x.advance(0, 1));
        Check.submit(x, 0, PROSE, "some words");
        Check.same("pay out of none", x.payOut(0), 0);
        Check.same("MONEY", x.count(5), 0);
        x.endow(1);
        Check.same("pay out of 1", x.payOut(0), 1);
        Check.same("MONEY", x.count(5), 0);
    }

    // "A writer has a balance, 0 at first, perhaps below 0."
    private static void balancesFrom0AndBelow() {
        LineOffice x = Check.office("stuff 2;fine 99;");
        Check.add(x, "cid");
        for (int writer = 0; writer < 3; writer++) {
            Check.same("balance at first", x.writer(writer, 0), 0);
        }
        Check.same("balance of a new object", new LineOffice().writer(0, 0), 0);
        Check.submit(x, 0, LIST, "a a");
        Check.same("below 0 by a fine", x.writer(0, 0), 2 - 99);
        x.advance(1, 1);
        Check.same("below 0 by an advance", x.writer(1, 0), -1);
        Check.same("the other one", x.writer(2, 0), 0);
    }

    // "what its lines pay that count comes to the balance of its writer, and FINE for each line that is caught goes
    // from it"
    private static void finesForNoneAndForAll() {
        LineOffice x = Check.office("fine 99;list 4;stuff 2;");
        Check.submit(x, 0, LIST, "a b c");
        Check.same("none caught", x.writer(0, 0), 6);
        Check.submit(x, 0, LIST, "a d b");
        Check.same("two caught", x.writer(0, 0), 6 + 2 - 198);
        Check.submit(x, 1, PROSE, "a a");
        Check.same("all caught", x.writer(1, 0), -99);
        x.set(3, 0);
        Check.submit(x, 1, PROSE, "a a");
        Check.same("FINE 0", x.writer(1, 0), -99);
        x.set(3, 1);
        Check.submit(x, 1, LIST, "z" + " z".repeat(59));
        Check.same("59 caught", x.writer(1, 0), -99 + 2 - 59);
    }

    // "is granted if it has DISTINCT different words or more"
    private static void grantedByDistinctWords() {
        String[] lines = {"a a", "a a b", "a a b c", "a a b c d", "a a b c d e", "a a b c d e f", "a a b c d e f g",
            "a a b c d e f g h", "a a b c d e f g h i"};
        for (int distinct = 1; distinct <= 9; distinct++) {
            for (int words = 1; words <= 9; words++) {
                LineOffice x = Check.office("measure 30;stuff 2;distinct " + distinct + ";");
                Check.submit(x, 0, VERSE, lines[words - 1]);
                Check.same("different words", x.line(0, 0, 6), words);
                Check.same("hopes", x.hopes(0), words >= distinct ? 1 : 0);
                Check.same(words + " words by DISTINCT " + distinct, x.appeal(0, 0), words >= distinct ? 1 : 0);
            }
        }
    }

    // "then it counts from now on, what it pays and FINE (of now) come to the balance; other lines stay as they are"
    private static void grantedLines() {
        LineOffice x = Check.office("stuff 2;distinct 1;fine 3;prose 9;verse 9;");
        Check.submit(x, 0, VERSE, "a a/a a/b");
        Check.same("balance", x.writer(0, 0), 4 - 6);
        x.set(3, 99);
        x.appeal(0, 0);
        Check.same("FINE of now", x.writer(0, 0), -2 + 4 + 99);
        x.set(3, 0);
        x.appeal(0, 1);
        Check.same("FINE of now is 0", x.writer(0, 0), 101 + 4);
        Check.same("states", Check.states(x, 0), "ggc");
        LineOffice y = Check.office("stuff 2;distinct 1;worn 1;");
        Check.submit(y, 0, VERSE, "a a/b c/a a/b a");
        Check.submit(y, 1, VERSE, "a a");
        y.appeal(0, 0);
        Check.same("other lines stay", Check.states(y, 0) + Check.states(y, 1), "gcxcx");
        Check.same("other reasons stay", Check.reasons(y, 0), "2020");
    }

    // "Otherwise the appeal is lost, and FEE goes from the balance."
    private static void lostAppeals() {
        LineOffice x = Check.office("stuff 2;distinct 2;fine 0;fee 99;");
        Check.submit(x, 0, VERSE, "a a/b b");
        x.appeal(0, 0);
        Check.same("FEE", x.writer(0, 0), -99);
        Check.same("it is caught still", x.work(0, 5), 0);
        x.set(6, 0);
        x.appeal(0, 1);
        Check.same("FEE 0", x.writer(0, 0), -99);
    }

    // "There is at most one appeal for a line"
    private static void oneAppealForALine() {
        LineOffice x = Check.office("stuff 2;distinct 2;");
        Check.submit(x, 0, VERSE, "a a b/c c");
        Check.same("granted", x.appeal(0, 0), 1);
        Check.same("a second one", x.appeal(0, 0), -1);
        Check.same("lost", x.appeal(0, 1), 0);
        x.set(5, 1);
        Check.same("a second one", x.appeal(0, 1), -1);
        x.undo();
        x.undo();
        Check.same("the first one is undone", x.appeal(0, 1), 0);
    }

    // "until TERM days (TERM of now) behind the day on which the work was handed in"
    private static void appealsUntilTerm() {
        for (int term : new int[] {0, 1, 7, 29, 30}) {
            LineOffice x = Check.office("stuff 2;distinct 1;term " + term + ";");
            x.pass(50);
            Check.submit(x, 0, VERSE, "a a/b b");
            if (term > 0) {
                x.pass(term);
            }
            Check.same("whyNot on the last day of " + term, x.whyNot(0, 0), 0);
            Check.same("hopes on the last day of " + term, x.hopes(0), 2);
            Check.same("appeal on the last day of " + term, x.appeal(0, 0), 1);
            x.pass(1);
            Check.same("whyNot a day later than " + term, x.whyNot(0, 1), 2);
            Check.same("hopes a day later than " + term, x.hopes(0), 0);
            Check.same("appeal a day later than " + term, x.appeal(0, 1), -2);
        }
    }

    // "(TERM of now)"
    private static void termOfNow() {
        LineOffice x = Check.office("stuff 2;distinct 1;term 30;");
        Check.submit(x, 0, VERSE, "a a/b b");
        x.pass(5);
        x.set(4, 4);
        Check.same("a shorter TERM", x.appeal(0, 0), -2);
        x.set(4, 5);
        Check.same("just TERM", x.appeal(0, 0), 1);
        x.set(4, 0);
        Check.same("TERM 0", x.appeal(0, 1), -2);
        Check.submit(x, 0, VERSE, "c c");
        Check.same("TERM 0 on the day itself", x.appeal(1, 0), 1);
    }

    // "and none any more of a writer who lost three"
    private static void threeLostAppeals() {
        LineOffice x = Check.office("stuff 2;distinct 2;");
        Check.submit(x, 0, VERSE, "a a/b b c/d d/e e");
        Check.submit(x, 1, VERSE, "a a");
        Check.submit(x, 0, VERSE, "f f/g g h");
        Check.same("lost", x.appeal(0, 0), 0);
        Check.same("granted ones are not lost", x.appeal(0, 1), 1);
        Check.same("lost", x.appeal(0, 2), 0);
        Check.same("two are lost", x.whyNot(0, 3), 0);
        Check.same("two are lost, one hope", x.hopes(0), 1);
        Check.same("lost, of another work", x.appeal(2, 0), 0);
        Check.same("three are lost", x.whyNot(0, 3), 3);
        Check.same("three are lost", x.appeal(0, 3), -3);
        Check.same("three are lost, though it would be granted", x.appeal(2, 1), -3);
        Check.same("three are lost, no hope", x.hopes(0), 0);
        Check.same("lost appeals", x.writer(0, 6), 3);
        Check.same("another writer's", x.appeal(1, 0), 0);
        x.undo();
        x.undo();
        Check.same("the third one is undone", x.appeal(2, 1), 1);
    }

    // "Each of these that is not 0 is an entry of the ledger, with the day, the writer, a kind and an amount (below 0
    // if it goes from the balance)"
    private static void entriesOfWhatIsNot0() {
        LineOffice x = Check.office("stuff 2;distinct 2;prose 0;fine 0;fee 0;term 30;");
        Check.submit(x, 0, VERSE, "a a/b b c");
        Check.submit(x, 1, PROSE, "some words");
        x.appeal(0, 0);
        x.payOut(0);
        Check.same("all 0: no entry", x.count(6), 0);
        x.set(8, 1);
        Check.submit(x, 0, VERSE, "d d e");
        x.set(8, 8);
        Check.same("granted for 0", x.appeal(2, 0), 1);
        Check.same("no entry", x.count(6), 0);
        x.pass(3);
        x.set(3, 1);
        x.set(7, 1);
        x.set(6, 1);
        Check.submit(x, 1, PROSE, "other some words");
        Check.submit(x, 1, VERSE, "z z");
        x.appeal(4, 0);
        x.set(0, 6);
        Check.submit(x, 1, PROSE, "z z x zz abcdef");
        Check.same("appeal for FINE 1 alone", x.appeal(5, 0), 1);
        x.payOut(1);
        x.advance(1, 1);
        int[][] due = {{3, 1, 0, 1}, {3, 1, 1, -1}, {3, 1, 3, -1}, {3, 1, 0, 1}, {3, 1, 1, -1}, {3, 1, 2, 2},
            {3, 1, 4, -1}, {3, 1, 5, -1}};
        Check.same("entries", x.count(6), due.length);
        for (int i = 0; i < due.length; i++) {
            for (int what = 0; what < 4; what++) {
                Check.same("entry " + i + " part " + what, x.entry(i, what), due[i][what]);
            }
        }
    }

    // "1 fines of a work (all together)", "2 an appeal that is granted (its pay and FINE together)"
    private static void entriesTogether() {
        LineOffice x = Check.office("fine 5;stuff 2;distinct 1;list 8;");
        Check.submit(x, 0, LIST, "a a b a");
        Check.same("entries", x.count(6), 2);
        Check.same("pay of two lines", x.entry(0, 3), 8);
        Check.same("fines of two lines", x.entry(1, 3), -10);
        x.appeal(0, 1);
        Check.same("entries", x.count(6), 3);
        Check.same("pay and FINE", x.entry(2, 3), 9);
    }

    // "The latest 30 entries are kept, numbered from 0 for the earliest one that is kept."
    private static void latest30Entries() {
        LineOffice x = Check.office("fine 3;stuff 2;");
        for (int i = 1; i <= 29; i++) {
            x.advance(0, i);
        }
        Check.same("29 entries", x.count(6), 29);
        x.advance(1, 30);
        Check.same("30 entries", x.count(6), 30);
        Check.same("the earliest of 30", x.entry(0, 3), -1);
        Check.same("the latest of 30", x.entry(29, 3), -30);
        x.advance(0, 31);
        Check.same("31 entries", x.count(6), 30);
        Check.same("the earliest but one", x.entry(0, 3), -2);
        Check.same("the latest of 31", x.entry(29, 3), -31);
        Check.submit(x, 1, LIST, "a a");
        Check.same("a work of two entries", x.count(6), 30);
        Check.same("two are gone", x.entry(0, 3), -4);
        Check.same("pay", x.entry(28, 3), 2);
        Check.same("fine", x.entry(29, 3), -3);
        Check.same("sum of those that are kept", x.booked(0, 0, 9999), -(4 + 29) * 26 / 2 - 31);
        Check.same("the balance has all", x.writer(0, 0), -(1 + 29) * 29 / 2 - 31);
        x.undo();
        x.undo();
        Check.same("they are back", x.entry(0, 3), -1);
        Check.same("30 entries still", x.count(6), 30);
        x.undo();
        Check.same("29 entries again", x.count(6), 29);
        for (int i = 0; i < 70; i++) {
            x.advance(1, 1 + i % 7);
        }
        Check.same("behind many more", x.count(6), 30);
        Check.same("the first of the last 30", x.entry(0, 3), -(1 + 40 % 7));
        Check.same("the last of them", x.entry(29, 3), -(1 + 69 % 7));
    }

    private static void aWorkOfTwoEntriesAt29() {
        LineOffice x = Check.office("fine 3;stuff 2;");
        for (int i = 1; i <= 29; i++) {
            x.advance(0, i);
        }
        Check.submit(x, 1, LIST, "a a");
        Check.same("31 entries", x.count(6), 30);
        Check.same("one is gone", x.entry(0, 3), -2);
        Check.same("its pay", x.entry(28, 2), 0);
        Check.same("its fine", x.entry(29, 2), 1);
    }

    private static void words() {
        wordsOf1To12Letters();
        bytesOfAWork();
        worksOf1To60Words();
        widthsOfOneWordAndMore();
    }

    private static void brokenLines() {
        linesOfJustMeasureAndOneAbove();
        wordsWiderThanMeasure();
        slashes();
        listsAreBrokenByWords();
        linesStayIfMeasureChanges();
    }

    private static void padding() {
        pastIsEmptyAtFirst();
        pastIsAheadAlone();
        pastIsOfAllKinds();
        pastIsWhatCountsThen();
        firstOfTheReasons();
        staleBySameWordsAlone();
        stuffedByStuffTimes();
        wornByWornLines();
        wornBy99Lines();
        wornCountsALineOnce();
        payByTwiceTheWidth();
        halfOfRateIsCut();
        payIsForGood();
    }

    private static void money() {
        moneyFrom0To99999();
        balancesFrom0AndBelow();
        finesForNoneAndForAll();
        grantedByDistinctWords();
        grantedLines();
        lostAppeals();
        oneAppealForALine();
        appealsUntilTerm();
        termOfNow();
        threeLostAppeals();
        entriesOfWhatIsNot0();
        entriesTogether();
        latest30Entries();
        aWorkOfTwoEntriesAt29();
    }

    public static void main(String[] args) {
        call512IsAnsweredAsTheOthers();
        words();
        brokenLines();
        padding();
        money();
        Check.end();
    }
}
