/**
 * Each sentence of promises 35 to 49, and of what the terms tell of changes, questions and exceptions, that names a
 * boundary case: a test of its own for each.
 */
public final class ChangeBoundsTest {
    private static final int PROSE = LineOffice.PROSE;
    private static final int VERSE = LineOffice.VERSE;
    private static final int LIST = LineOffice.LIST;
    private static final int LEAST = Integer.MIN_VALUE;
    private static final int GREATEST = Integer.MAX_VALUE;
    private static final int[] LOWEST = {6, 2, 1, 0, 0, 1, 0, 0, 0, 0};
    private static final int[] HIGHEST = {30, 9, 99, 99, 30, 9, 99, 99, 99, 99};
    private static final int[] USUAL = {20, 3, 4, 2, 7, 3, 1, 10, 8, 5};

    private static void throwsIndex(String what, Whole.Act act) {
        Whole.throwing(what, Check.INDEX, Whole::busy, act);
    }

    private static void throwsArgument(String what, Whole.Act act) {
        Whole.throwing(what, Check.ARGUMENT, Whole::busy, act);
    }

    private static void emptyBuffer(String what, LineOffice x) {
        Check.same(what + ": the buffer is empty", x.truncateInput(1) ? 1 : 0, 0);
    }

    private static void changed(String what, LineOffice x, int changes) {
        Check.same(what + ": changes", x.count(8), changes);
    }

    private static LineOffice withVerse(String settings, String verse) {
        LineOffice x = Check.office("stuff 2;" + settings);
        Check.submit(x, 0, VERSE, verse);
        return x;
    }

    // "Changes are the methods whose description says so, if they succeed, also if nothing is different then"
    private static void changesThatSucceed() {
        Whole.Act[] acts = {x -> x.submit(1, PROSE, 4), x -> x.appeal(0, 1), x -> x.appeal(0, 3), x -> x.payOut(0),
            x -> x.payOut(1), x -> x.advance(0, 1), x -> x.advance(1, 999), x -> Check.add(x, "cid"), x -> x.endow(1),
            x -> x.endow(9999), x -> x.pass(1), x -> x.pass(99), x -> x.set(0, 6), x -> x.set(0, 20), x -> x.set(1, 2)};
        for (int i = 0; i < acts.length; i++) {
            Whole.Act act = acts[i];
            LineOffice x = Whole.calm();
            Check.give(x, "rest");
            act.on(x);
            changed("change " + i, x, 2);
            Check.same("undone " + i, x.undo(), 1);
            Whole.untouched("undone change " + i, Whole.BUFFER, Whole::calm, y -> {
                Check.give(y, "rest");
                act.on(y);
                y.undo();
            });
        }
        LineOffice rich = new LineOffice();
        Check.load(rich, "office 99999;writer a;");
        rich.endow(1);
        rich.payOut(0);
        rich.set(5, 3);
        changed("nothing is different", rich, 3);
    }

    // "one that is refused (which it tells by a number below 0) is none"
    private static void refusedOnes() {
        Whole.Act[] acts = {x -> Check.submit(x, 0, PROSE, "no 7"), x -> Check.submit(x, 0, PROSE, ""),
            x -> Check.submit(x, 0, LIST, "abcdefghijklm"), x -> Check.submit(x, 0, LIST, Check.words(0, 61, " ")),
            x -> Check.submit(x, 0, PROSE, "a/b"), x -> Check.add(x, "ann"), x -> Check.add(x, "fee"),
            x -> Check.add(x, ""), x -> Check.add(x, "abcdefg"), x -> Check.add(x, "a b")};
        for (int i = 0; i < acts.length; i++) {
            Whole.untouched("refused " + i, Whole.BUFFER, Whole::busy, acts[i]);
            emptyBuffer("refused " + i, Whole.done(Whole::busy, acts[i]));
        }
        Whole.untouched("appeal for a line that counts", 0, Whole::busy, x -> x.appeal(0, 0));
        Whole.untouched("a second appeal", 0, Whole::busy, x -> x.appeal(0, 1));
        Whole.untouched("a second appeal, behind one that was lost", 0, Whole::busy, x -> x.appeal(0, 2));
        Whole.untouched("an appeal that is too late", 0, ChangeBoundsTest::late, x -> x.appeal(0, 0));
        Whole.untouched("an appeal behind three that were lost", 0, ChangeBoundsTest::loser, x -> x.appeal(0, 3));
        Whole.untouched("a 13th work", Whole.BUFFER, ChangeBoundsTest::shelf, x -> Check.submit(x, 0, PROSE, "a"));
        Whole.untouched("a 7th writer", Whole.BUFFER, ChangeBoundsTest::crowd, x -> Check.add(x, "g"));
    }

    private static LineOffice late() {
        LineOffice x = withVerse("term 3;", "a a");
        x.pass(4);
        return x;
    }

    private static LineOffice loser() {
        LineOffice x = withVerse("distinct 2;", "a a/b b/c c/d d e");
        x.appeal(0, 0);
        x.appeal(0, 1);
        x.appeal(0, 2);
        return x;
    }

    private static LineOffice shelf() {
        LineOffice x = Check.office("");
        for (int i = 0; i < 12; i++) {
            Check.submit(x, i % 2, PROSE, "a");
        }
        return x;
    }

    private static LineOffice crowd() {
        LineOffice x = Check.office("");
        for (String name : new String[] {"c", "d", "e", "f"}) {
            Check.add(x, name);
        }
        return x;
    }

    // "At most 8 changes are kept to be undone: a further one puts the oldest of them away for good"
    private static void atMost8Changes() {
        for (int made = 0; made <= 26; made++) {
            LineOffice x = new LineOffice();
            for (int i = 1; i <= made; i++) {
                x.pass(i);
            }
            int kept = Math.min(8, made);
            changed(made + " made", x, kept);
            for (int left = kept - 1; left >= 0; left--) {
                Check.same(made + " made, left", x.undo(), left);
                int undone = made - kept + left;
                Check.same(made + " made, day", x.count(4), undone * (undone + 1) / 2);
                changed(made + " made", x, left);
            }
            Check.throwing(made + " made, none left", Check.ELEMENT, x::undo);
            Check.same(made + " made, day", x.count(4), (made - kept) * (made - kept + 1) / 2);
        }
    }

    // "one that was undone is kept no more"
    private static void undoneOnesAreKeptNoMore() {
        LineOffice x = new LineOffice();
        x.endow(1);
        x.pass(1);
        x.undo();
        x.endow(10);
        changed("one was undone", x, 2);
        x.undo();
        Check.same("the one behind it is undone", x.count(5), 1);
        Check.same("not the one that was undone", x.count(4), 0);
        x.undo();
        Check.throwing("both are undone", Check.ELEMENT, x::undo);
        for (int turn = 0; turn < 20; turn++) {
            for (int i = 0; i < 3; i++) {
                x.pass(1);
            }
            x.undo();
            x.undo();
            changed("turn " + turn, x, Math.min(6, turn + 1));
            Check.same("day of turn " + turn, x.count(4), turn + 1);
        }
        // two further ones of each turn had their place among the 8, and put older ones away for good
        for (int left = 5; left >= 0; left--) {
            int day = x.count(4);
            Check.same("left", x.undo(), left);
            Check.same("day", x.count(4), day - 1);
        }
        Check.throwing("none left", Check.ELEMENT, x::undo);
    }

    private static void anUndoneOneMakesRoom() {
        LineOffice x = new LineOffice();
        for (int i = 0; i < 8; i++) {
            x.pass(1);
        }
        x.undo();
        Check.same("MONEY", x.endow(3), 3);
        changed("8 again", x, 8);
        x.set(0, 6);
        changed("8 still", x, 8);
        int[] days = {7, 7, 6, 5, 4, 3, 2, 1};
        for (int i = 0; i < 8; i++) {
            Check.same("left", x.undo(), 7 - i);
            Check.same("day", x.count(4), days[i]);
        }
        Check.throwing("the oldest one is away for good", Check.ELEMENT, x::undo);
    }

    // "Questions change nothing."
    private static void questionsChangeNothing() {
        for (int i = 0; i < 10; i++) {
            int what = i;
            Whole.untouched("numbers " + i, 0, Whole::busy, x -> {
                x.setting(what);
                x.writer(1, what);
                x.count(what % 9);
                x.work(1, what % 8);
                x.line(0, 1, what % 7);
                x.entry(0, what % 4);
                x.countsIf(0, what, HIGHEST[what]);
            });
        }
        Whole.untouched("errorCode", 0, Whole::busy, LineOffice::errorCode);
        Whole.untouched("errorOffset", 0, Whole::busy, LineOffice::errorOffset);
        Whole.untouched("outputByte", 0, Whole::busy, x -> x.outputByte(0));
        Whole.untouched("of lines", 0, Whole::busy, x -> {
            x.likeLine(0, 1);
            x.whyNot(0, 2);
            x.letters(0, 0);
        });
        Whole.untouched("of writers", 0, Whole::busy, x -> {
            x.favourite(0);
            x.booked(0, 0, 9);
            x.richest();
            x.rank(0);
            x.caughtShare(0);
            x.hopes(0);
        });
        Whole.untouched("of works", 0, Whole::busy, x -> {
            x.common(0, 1);
            x.newWords(0);
            x.widest(0);
            x.copiedFrom(0);
            x.meanWidth(0);
            x.longestRun(0);
        });
        Whole.untouched("of other measures", 0, Whole::busy, x -> {
            x.linesIf(0, 30);
            x.payIf(0, 6);
            x.bestMeasure(0);
        });
        Whole.untouched("of what would be", 0, Whole::busy, x -> {
            x.wouldCount(0, PROSE, 9);
            x.wouldPay(1, LIST, 4);
            x.wouldPay(1, VERSE, 0);
        });
        Whole.untouched("uses", Whole.BUFFER, Whole::busy, x -> x.uses(0));
        Whole.untouched("truncateInput that is refused", 0, Whole::busy, x -> x.truncateInput(10));
        Whole.untouched("truncateInput that is refused", 0, Whole::busy, x -> x.truncateInput(-1));
        Whole.untouched("truncateInput", Whole.BUFFER, Whole::busy, x -> x.truncateInput(3));
        Whole.untouched("appendInput", Whole.BUFFER, Whole::busy, x -> x.appendInput(1, 2, 3, 4, 5));
        Whole.untouched("printLine", Whole.OUTPUT, Whole::busy, x -> x.printLine(0, 1));
        Whole.untouched("printWork", Whole.OUTPUT, Whole::busy, x -> x.printWork(1));
        Whole.untouched("printBalances", Whole.OUTPUT, Whole::busy, LineOffice::printBalances);
    }

    // "If several exceptions apply to a call, the one that is listed first is thrown."
    private static void firstListedException() {
        throwsIndex("writer", x -> x.writer(2, 10));
        throwsIndex("work", x -> x.work(3, 8));
        throwsIndex("line of a work", x -> x.line(3, 0, 7));
        throwsIndex("line", x -> x.line(0, 6, -1));
        throwsIndex("entry", x -> x.entry(30, 4));
        throwsIndex("linesIf", x -> x.linesIf(3, 5));
        throwsIndex("payIf", x -> x.payIf(-1, 31));
        throwsIndex("wouldCount", x -> x.wouldCount(2, 3, 10));
        throwsIndex("wouldPay", x -> x.wouldPay(-1, -1, -1));
        throwsIndex("countsIf", x -> x.countsIf(3, 10, 0));
        throwsIndex("countsIf of a value", x -> x.countsIf(3, 0, 5));
        throwsIndex("submit", x -> x.submit(2, 3, 501));
        throwsIndex("advance", x -> x.advance(2, 0));
        throwsIndex("advance above MONEY", x -> x.advance(2, 999));
        throwsArgument("advance of too much", x -> x.advance(0, 1000));
        LineOffice last = lastDay();
        Check.throwing("pass of too many days on the last one", Check.ARGUMENT, () -> last.pass(100));
        Check.throwing("pass of no days on the last one", Check.ARGUMENT, () -> last.pass(0));
    }

    private static LineOffice lastDay() {
        LineOffice x = new LineOffice();
        for (int i = 0; i < 101; i++) {
            x.pass(99);
        }
        return x;
    }

    // "A method that throws changes nothing."
    private static void throwingChangesNothing() {
        throwsArgument("count", x -> x.count(9));
        throwsArgument("setting", x -> x.setting(10));
        throwsArgument("writer", x -> x.writer(0, 10));
        throwsArgument("work", x -> x.work(0, 8));
        throwsArgument("line", x -> x.line(0, 0, 7));
        throwsArgument("entry", x -> x.entry(0, 4));
        throwsArgument("linesIf", x -> x.linesIf(0, 31));
        throwsArgument("payIf", x -> x.payIf(0, 5));
        throwsArgument("countsIf", x -> x.countsIf(0, 0, 5));
        throwsIndex("likeLine", x -> x.likeLine(0, 6));
        throwsIndex("letters", x -> x.letters(0, 20));
        throwsIndex("uses", x -> x.uses(2));
        throwsIndex("favourite", x -> x.favourite(2));
        throwsIndex("common", x -> x.common(0, 3));
        throwsIndex("newWords", x -> x.newWords(3));
        throwsIndex("widest", x -> x.widest(3));
        throwsIndex("copiedFrom", x -> x.copiedFrom(3));
        throwsIndex("booked", x -> x.booked(2, 0, 9));
        throwsIndex("rank", x -> x.rank(2));
        throwsIndex("meanWidth", x -> x.meanWidth(3));
        throwsIndex("caughtShare", x -> x.caughtShare(2));
        throwsIndex("bestMeasure", x -> x.bestMeasure(3));
        throwsIndex("whyNot", x -> x.whyNot(0, 6));
        throwsIndex("hopes", x -> x.hopes(2));
        throwsIndex("longestRun", x -> x.longestRun(3));
        throwsIndex("printLine", x -> x.printLine(0, 6));
        throwsIndex("printLine of a work", x -> x.printLine(3, 0));
        throwsIndex("printWork", x -> x.printWork(3));
    }

    // the same of changes, with the last number that is refused on either side
    private static void changesThatThrow() {
        for (int bad : new int[] {LEAST, -1, 2, GREATEST}) {
            throwsIndex("submit of writer " + bad, x -> x.submit(bad, PROSE, 4));
            throwsIndex("wouldCount of writer " + bad, x -> x.wouldCount(bad, PROSE, 4));
            throwsIndex("wouldPay of writer " + bad, x -> x.wouldPay(bad, PROSE, 4));
            throwsIndex("payOut of " + bad, x -> x.payOut(bad));
            throwsIndex("advance to " + bad, x -> x.advance(bad, 1));
        }
        for (int bad : new int[] {LEAST, -1, 3, GREATEST}) {
            throwsArgument("submit of kind " + bad, x -> x.submit(0, bad, 4));
            throwsArgument("wouldCount of kind " + bad, x -> x.wouldCount(0, bad, 4));
            throwsArgument("wouldPay of kind " + bad, x -> x.wouldPay(0, bad, 4));
            throwsIndex("appeal for a line of work " + bad, x -> x.appeal(bad, 0));
        }
        for (int bad : new int[] {LEAST, -1, 10, 500, 501, GREATEST}) {
            throwsArgument("submit of length " + bad, x -> x.submit(0, PROSE, bad));
            throwsArgument("wouldCount of length " + bad, x -> x.wouldCount(0, PROSE, bad));
            throwsArgument("wouldPay of length " + bad, x -> x.wouldPay(0, PROSE, bad));
        }
        for (int bad : new int[] {LEAST, -1, 6, GREATEST}) {
            throwsIndex("appeal for line " + bad, x -> x.appeal(0, bad));
        }
        for (int bad : new int[] {LEAST, -1, 0, 1000, GREATEST}) {
            throwsArgument("advance of " + bad, x -> x.advance(0, bad));
        }
        for (int bad : new int[] {LEAST, -1, 0, 10000, GREATEST}) {
            throwsArgument("endow of " + bad, x -> x.endow(bad));
        }
        for (int bad : new int[] {LEAST, -1, 0, 100, GREATEST}) {
            throwsArgument("pass of " + bad, x -> x.pass(bad));
        }
        for (int bad : new int[] {LEAST, -1, 10, GREATEST}) {
            throwsArgument("set of " + bad, x -> x.set(bad, 6));
        }
        for (int i = 0; i < 10; i++) {
            int what = i;
            throwsArgument("set below " + i, x -> x.set(what, LOWEST[what] - 1));
            throwsArgument("set above " + i, x -> x.set(what, HIGHEST[what] + 1));
        }
    }

    private static void statesThatThrow() {
        Whole.throwing("undo of none", Check.ELEMENT, LineOffice::new, LineOffice::undo);
        Whole.throwing("restoreState of none", Check.ELEMENT, Whole::calm, LineOffice::restoreState);
        Whole.throwing("advance above MONEY", Check.STATE, Whole::busy, x -> x.advance(0, 976));
        Whole.throwing("advance without MONEY", Check.STATE, LineOffice::new, x -> x.advance(0, 1));
        Whole.throwing("pass beyond the last day", Check.STATE, ChangeBoundsTest::lastDay, x -> x.pass(1));
    }

    // Promise 35: "Returns its number; else the first of: WRONG .. ; FULL if there are 12 works."
    private static void twelveWorks() {
        LineOffice x = Check.office("");
        for (int i = 0; i < 12; i++) {
            Check.same("number", Check.submit(x, i % 2, i % 3, "a b"), i);
        }
        String[] texts = {"a b", "a 1", "", "abcdefghijklm", "a/b"};
        int[] due = {LineOffice.FULL, LineOffice.WRONG, LineOffice.WRONG, LineOffice.WRONG, LineOffice.WRONG};
        for (int i = 0; i < texts.length; i++) {
            Check.same("13th work " + texts[i], Check.submit(x, 0, LIST, texts[i]), due[i]);
            emptyBuffer("13th work " + texts[i], x);
        }
        Check.same("works", x.count(1), 12);
        x.undo();
        Check.same("the 12th again", Check.submit(x, 0, VERSE, "a b"), 11);
        Check.same("the 13th again", Check.submit(x, 0, VERSE, "a b"), LineOffice.FULL);
        Check.load(x, "office 1;writer a;");
        Check.same("the first behind a load", Check.submit(x, 0, VERSE, "a b"), 0);
    }

    // Promise 35: "0 to 500: how many of the first bytes of the input buffer are read", "or is greater than the length
    // of the buffer", "The buffer is empty afterwards, also if it is refused."
    private static void lengthsOfSubmit() {
        for (int length : new int[] {0, 1, 20, 499, 500, 501, 600}) {
            int[] lengths = {LEAST, -1, 0, 1, length - 1, length, length + 1, 499, 500, 501, 600, GREATEST};
            for (int asked : lengths) {
                LineOffice x = new LineOffice();
                Check.give(x, "a".repeat(Math.min(1, length)) + " ".repeat(Math.max(0, length - 1)));
                if (asked >= 0 && asked <= length && asked <= 500) {
                    int due = asked == 0 ? LineOffice.WRONG : 0;
                    Check.same(asked + " of " + length, x.submit(0, PROSE, asked), due);
                    emptyBuffer(asked + " of " + length, x);
                } else {
                    Check.throwing(asked + " of " + length, Check.ARGUMENT, () -> x.submit(0, PROSE, asked));
                    Check.same("the buffer stays", x.truncateInput(length) ? 1 : 0, 1);
                }
            }
        }
    }

    // Promise 35: "whose words are the first bytes of the input buffer"
    private static void firstBytesOfSubmit() {
        String[] due = {"a", "a", "a|b", "a|b", "a|b|cc", "a|b|cc"};
        int[] lengths = {1, 2, 3, 4, 6, 7};
        for (int i = 0; i < lengths.length; i++) {
            LineOffice x = new LineOffice();
            Check.give(x, "a b cc !");
            Check.same("work", x.submit(0, LIST, lengths[i]), 0);
            emptyBuffer("what was not read is gone", x);
            Check.same("lines of " + lengths[i] + " bytes", Check.lines(x, 0), due[i]);
        }
        LineOffice y = new LineOffice();
        Check.give(y, "abcdefghijklm");
        Check.same("12 letters of 13", y.submit(0, LIST, 12), 0);
        Check.give(y, "abcdefghijklm");
        Check.same("13 letters of 13", y.submit(0, LIST, 13), LineOffice.WRONG);
        Check.give(y, "a ".repeat(60) + "a");
        Check.same("60 words of 61", y.submit(0, LIST, 120), 1);
        Check.give(y, "a ".repeat(60) + "a");
        Check.same("61 words of 61", y.submit(0, LIST, 121), LineOffice.WRONG);
    }

    // Promise 36: "1 if it is granted, 0 if it is lost; minus the reason of whyNot() if there can be none"
    private static void answersOfAppeal() {
        LineOffice x = withVerse("distinct 2;term 1;", "a a b/b b/c c/d d/e e/f");
        Check.same("it counts", x.appeal(0, 5), -1);
        Check.same("granted", x.appeal(0, 0), 1);
        Check.same("granted already", x.appeal(0, 0), -1);
        Check.same("lost", x.appeal(0, 1), 0);
        Check.same("lost already", x.appeal(0, 1), -1);
        x.pass(2);
        Check.same("too late", x.appeal(0, 2), -2);
        Check.same("lost already, and too late", x.appeal(0, 1), -1);
        x.set(4, 2);
        Check.same("lost", x.appeal(0, 2), 0);
        Check.same("lost", x.appeal(0, 3), 0);
        Check.same("three are lost", x.appeal(0, 4), -3);
        x.set(4, 1);
        Check.same("too late, and three are lost", x.appeal(0, 4), -2);
        Check.same("it counts, and is too late, and three are lost", x.appeal(0, 5), -1);
    }

    // Promise 37: "as far as it is above 0 and there is MONEY"
    private static void payOutUpToBalanceAndMoney() {
        int[][] rows = {{10, 9, 9}, {10, 10, 10}, {10, 11, 10}, {10, 0, 0}, {1, 1, 1}, {0, 5, 0}, {-1, 5, 0},
            {-1, 0, 0}, {1, 99999, 1}, {99, 98, 98}};
        for (int[] row : rows) {
            LineOffice x = new LineOffice();
            Check.load(x, "office " + (row[0] < 0 ? row[1] + 1 : row[1]) + ";writer a;measure 6;prose "
                    + Math.max(0, row[0]) + ";");
            if (row[0] < 0) {
                x.advance(0, 1);
            } else {
                Check.submit(x, 0, PROSE, "abc");
            }
            String what = row[0] + " of MONEY " + row[1];
            int entries = x.count(6);
            int paid = x.writer(0, 7);
            Check.same("balance " + what, x.writer(0, 0), row[0]);
            Check.same("payOut " + what, x.payOut(0), row[2]);
            Check.same("balance behind " + what, x.writer(0, 0), row[0] - row[2]);
            Check.same("MONEY behind " + what, x.count(5), row[1] - row[2]);
            Check.same("paid out behind " + what, x.writer(0, 7), paid + row[2]);
            Check.same("entries behind " + what, x.count(6), entries + (row[2] > 0 ? 1 : 0));
            Check.same("payOut again", x.payOut(0), 0);
        }
    }

    // Promise 38: "1 to 999", "if there is less MONEY", "Returns the balance then."
    private static void advancesUpToMoney() {
        int[][] rows = {{1, 1}, {2, 1}, {999, 999}, {1000, 999}, {99999, 999}, {500, 500}, {99999, 1}};
        for (int[] row : rows) {
            LineOffice x = new LineOffice();
            Check.load(x, "office " + row[0] + ";writer a;writer b;");
            Check.same("advance of " + row[1], x.advance(1, row[1]), -row[1]);
            Check.same("MONEY behind it", x.count(5), row[0] - row[1]);
            Check.same("paid out", x.writer(1, 7), row[1]);
            Check.same("amount", x.entry(0, 3), -row[1]);
            Check.same("the other one", x.writer(0, 0), 0);
        }
        for (int[] row : new int[][] {{0, 1}, {1, 2}, {998, 999}, {499, 500}}) {
            LineOffice x = new LineOffice();
            Check.load(x, "office " + row[0] + ";writer a;writer b;");
            Check.throwing("advance of " + row[1], Check.STATE, () -> x.advance(1, row[1]));
            Check.same("MONEY", x.count(5), row[0]);
        }
        LineOffice y = Check.office("measure 6;");
        Check.submit(y, 0, PROSE, "abc");
        Check.same("a balance above 0 then", y.advance(0, 9), 1);
        Check.same("a balance of 0 then", y.advance(0, 1), 0);
        Check.same("a balance below 0 then", y.advance(0, 1), -1);
    }

    // Promise 39: "WRONG if the content is no NAME as of section 4, or that of a writer; FULL if there are 6"
    private static void namesOfAddWriter() {
        String[] names = {"z", "zy", "zyx", "zyxw", "zyxwv", "zyxwvu", "offic", "write", "measur", "stuf", "wornn",
            "terms", "fe", "lis", "an", "anns", "bo", "b"};
        for (String name : names) {
            LineOffice x = Check.office("");
            Check.same("addWriter " + name, Check.add(x, name), 2);
            emptyBuffer("addWriter " + name, x);
            x.printBalances();
            Check.same("the name", Check.output(x), "ann=0 bob=0 " + name + "=0");
            Check.same("once more", Check.add(x, name), LineOffice.WRONG);
        }
        String[] wrong = {"", " ", "zyxwvut", "abcdefghijkl", "abcdefghijklm", "a".repeat(600), "z ", " z", "z\n", "z;",
            "z1", "1", "Z", "zY", "z" + (char) 0, "z" + (char) 250, "`", "{", "ann", "bob", "office", "writer",
            "measure",
            "stuff", "worn", "fine", "term", "distinct", "fee", "prose", "verse", "list"};
        LineOffice six = crowd();
        for (String name : wrong) {
            LineOffice x = Check.office("");
            Check.same("addWriter '" + name + "'", Check.add(x, name), LineOffice.WRONG);
            emptyBuffer("addWriter '" + name + "'", x);
            Check.same("seventh writer '" + name + "'", Check.add(six, name), LineOffice.WRONG);
            emptyBuffer("seventh writer '" + name + "'", six);
        }
    }

    private static void sixWriters() {
        LineOffice x = new LineOffice();
        for (int i = 1; i <= 5; i++) {
            Check.same("number", Check.add(x, "w".repeat(i)), i);
        }
        Check.same("seventh", Check.add(x, "v"), LineOffice.FULL);
        emptyBuffer("seventh", x);
        Check.same("WRONG comes first", Check.add(x, "ww"), LineOffice.WRONG);
        Check.same("writers", x.count(0), 6);
        changed("five are added", x, 5);
        x.undo();
        Check.same("sixth again", Check.add(x, "v"), 5);
        Check.same("a name that was undone", Check.add(x, "wwwww"), LineOffice.FULL);
    }

    // Promise 40: "1 to 9999", "99999 at most (what is beyond is lost)"
    private static void endowedUpTo99999() {
        int[][] rows = {{0, 1, 1}, {0, 9999, 9999}, {90000, 9998, 99998}, {90000, 9999, 99999}, {90001, 9999, 99999},
            {99998, 1, 99999}, {99998, 2, 99999}, {99999, 1, 99999}, {99999, 9999, 99999}};
        for (int[] row : rows) {
            LineOffice x = new LineOffice();
            Check.load(x, "office " + row[0] + ";writer a;");
            Check.same(row[0] + " and " + row[1], x.endow(row[1]), row[2]);
            Check.same("MONEY then", x.count(5), row[2]);
            Check.same("no entry", x.count(6), 0);
            x.advance(0, 1);
            Check.same("what is beyond is lost", x.count(5), row[2] - 1);
        }
    }

    // Promise 41: "1 to 99", "if the day would be greater than 9999"
    private static void daysUpTo9999() {
        LineOffice x = new LineOffice();
        Check.same("day", x.pass(1), 1);
        Check.same("day", x.pass(99), 100);
        for (int i = 1; i <= 98; i++) {
            x.pass(99);
        }
        Check.same("day", x.pass(98), 9900);
        Check.same("the last day", x.pass(99), 9999);
        Check.throwing("day 10000", Check.STATE, () -> x.pass(1));
        Check.throwing("day 10098", Check.STATE, () -> x.pass(99));
        x.undo();
        Check.same("day", x.pass(1), 9901);
        Check.throwing("day 10000", Check.STATE, () -> x.pass(99));
        Check.same("day", x.pass(97), 9998);
        Check.throwing("day 10000", Check.STATE, () -> x.pass(2));
        Check.same("the last day", x.pass(1), 9999);
        Check.submit(x, 0, PROSE, "a a a");
        Check.same("handed in on the last day", x.work(0, 2), 9999);
        Check.same("an appeal on the last day", x.whyNot(0, 0), 0);
        Check.same("entry of the last day", x.entry(0, 0), 9999);
        Check.same("booked on the last day", x.booked(0, 9999, GREATEST), -2);
    }

    // Promise 42: "a value in its range (section 4)", "Returns the setting before."
    private static void settingsInTheirRanges() {
        LineOffice x = new LineOffice();
        for (int i = 0; i < 10; i++) {
            int what = i;
            Check.same("before " + i, x.set(i, LOWEST[i]), USUAL[i]);
            Check.same("before " + i, x.set(i, LOWEST[i] + 1), LOWEST[i]);
            Check.same("before " + i, x.set(i, HIGHEST[i] - 1), LOWEST[i] + 1);
            Check.same("before " + i, x.set(i, HIGHEST[i]), HIGHEST[i] - 1);
            Check.same("the same value", x.set(i, HIGHEST[i]), HIGHEST[i]);
            for (int bad : new int[] {LEAST, LOWEST[i] - 1, HIGHEST[i] + 1, GREATEST}) {
                Check.throwing("set " + i + " to " + bad, Check.ARGUMENT, () -> x.set(what, bad));
            }
            for (int j = 0; j < 10; j++) {
                Check.same("setting " + j, x.setting(j), j <= i ? HIGHEST[j] : USUAL[j]);
            }
        }
    }

    // Promise 42: "for works that are handed in from now on, and for appeals"
    private static void settingsFromNowOn() {
        LineOffice x = withVerse("distinct 1;fine 2;", "a a b/c");
        x.set(1, 9);
        x.set(3, 50);
        x.set(8, 0);
        Check.same("judged as it was", Check.states(x, 0), "xc");
        Check.same("paid as it was", x.work(0, 6), 4);
        Check.same("balance as it was", x.writer(0, 0), 4 - 2);
        Check.submit(x, 0, VERSE, "d d e/c");
        Check.same("judged by now", Check.states(x, 1), "cx");
        Check.same("paid and fined by now", x.writer(0, 0), 2 - 50);
        x.set(5, 3);
        Check.same("DISTINCT of now", x.appeal(0, 0), 0);
    }

    // Promise 43: "The input buffer, the error and the output stay.", "Returns the number of changes that can still be
    // undone."
    private static void undoLeavesTheRest() {
        Whole.Act behind = x -> {
            Check.load(x, "office 1;fee 100;");
            x.printLine(0, 0);
            Check.give(x, "other");
        };
        Whole.same("what undo leaves", 0,
                () -> Whole.done(Whole::calm, x -> {
                    Check.submit(x, 1, PROSE, "some words");
                    behind.on(x);
                    Check.same("left", x.undo(), 1);
                }), () -> Whole.done(Whole::calm, behind));
        LineOffice x = Whole.done(Whole::calm, behind);
        Check.same("the last one", x.undo(), 0);
        Check.same("error", x.errorCode(), LineOffice.OUT_OF_RANGE);
        Check.same("offset", x.errorOffset(), 13);
        Check.same("output", Check.output(x), "one two three");
        Check.same("buffer", Whole.buffer(x), "5 bytes: other");
    }

    // undo and the saved state leave one another alone
    private static void undoAndTheSavedState() {
        LineOffice x = new LineOffice();
        x.pass(1);
        x.saveState();
        x.pass(2);
        Check.same("left", x.undo(), 1);
        Check.same("left", x.undo(), 0);
        Check.same("day", x.count(4), 0);
        Check.same("still saved", x.restoreState(), 1);
        Check.throwing("nothing can be undone then", Check.ELEMENT, x::undo);
        x.pass(5);
        Check.same("from the restored state on", x.undo(), 0);
        Check.same("the restored day", x.count(4), 1);
    }

    // Promise 44: "in place of what it had: its words, with a space between two"
    private static void printedLines() {
        LineOffice x = Check.office("measure 30;");
        Check.submit(x, 0, VERSE, "a/abcdefghijkl abcdefghijkl abcd/ a \n b //z");
        String[] due = {"a", "abcdefghijkl abcdefghijkl abcd", "a b", "z"};
        for (int i : new int[] {0, 1, 2, 1, 3, 0}) {
            Check.same("bytes of line " + i, x.printLine(0, i), due[i].length());
            Check.same("line " + i, Check.output(x), due[i]);
        }
        Check.submit(x, 0, LIST, Check.words(0, 59, " ") + "abcdefghijkl");
        Check.same("the last of sixty", x.printLine(1, 59), 12);
        Check.same("the last of sixty", Check.output(x), "abcdefghijkl");
        Check.throwing("line 60", Check.INDEX, () -> x.printLine(1, 60));
        Check.throwing("line -1", Check.INDEX, () -> x.printLine(1, -1));
        Check.throwing("work 2", Check.INDEX, () -> x.printLine(2, 0));
        Check.throwing("work -1", Check.INDEX, () -> x.printLine(-1, 0));
        Check.same("the output stays", Check.output(x), "abcdefghijkl");
    }

    // Promise 45: "for each line, with a space between two, its width, and a letter for its state (c, x, g, l, by the
    // numbers of states)"
    private static void printedWorks() {
        LineOffice x = withVerse("measure 30;distinct 2;", "a/abcdefghijkl bcdefghijklm abcd/b b/c c d/e e");
        x.appeal(0, 2);
        x.appeal(0, 3);
        Check.same("bytes", x.printWork(0), 15);
        Check.same("a work", Check.output(x), "1c 30c 3l 5g 3x");
        Check.submit(x, 1, PROSE, "a");
        Check.same("bytes of one line", x.printWork(1), 2);
        Check.same("one line", Check.output(x), "1c");
        String[] wide = new String[60];
        for (int i = 0; i < 60; i++) {
            wide[i] = i < 42 ? "abcdefg" + Check.words(i, 1, "") : "z";
        }
        Check.submit(x, 1, LIST, String.join(" ", wide));
        Check.same("the most bytes", x.printWork(2), 42 * 4 + 18 * 3 - 1);
        Check.same("the last of them", x.outputByte(220), 'x');
        Check.same("none behind it", x.outputByte(221), -1);
        Check.throwing("work 3", Check.INDEX, () -> x.printWork(3));
        Check.throwing("work -1", Check.INDEX, () -> x.printWork(-1));
        Check.same("the output stays", x.outputByte(220), 'x');
        x.printWork(1);
        Check.same("in place of what it had", Check.output(x), "1c");
    }

    // Promise 46: "for each writer, with a space between two, the name, an equals sign, and the balance (a minus sign
    // ahead if it is below 0)"
    private static void printedBalances() {
        LineOffice x = new LineOffice();
        Check.same("bytes of one", x.printBalances(), 3);
        Check.same("one", Check.output(x), "a=0");
        Check.load(x, "office 99999;writer abcdef;writer b;writer bcdefg;writer d;writer e;writer cdefgh;"
                + "measure 6;prose 1;");
        Check.submit(x, 1, PROSE, "abc");
        x.advance(2, 1);
        x.set(7, 10);
        Check.submit(x, 3, PROSE, "abc");
        x.advance(4, 10);
        for (int i = 0; i < 100; i++) {
            x.advance(5, 999);
        }
        x.endow(9999);
        x.advance(5, 100);
        String due = "abcdef=0 b=1 bcdefg=-1 d=10 e=-10 cdefgh=-100000";
        Check.same("bytes of six", x.printBalances(), due.length());
        Check.same("six", Check.output(x), due);
        x.advance(5, 1);
        x.undo();
        x.undo();
        Check.same("the output stays", Check.output(x), due);
        x.printBalances();
        Check.same("in place of what it had", Check.output(x), due.replace("-100000", "-99900"));
    }

    // Promise 47: "-1 if there is no such byte"
    private static void bytesOfTheOutput() {
        LineOffice x = new LineOffice();
        for (int bad : new int[] {LEAST, -1, 0, 1, GREATEST}) {
            Check.same("no output, byte " + bad, x.outputByte(bad), -1);
        }
        Check.submit(x, 0, PROSE, "abcdefghijkl z");
        int length = x.printLine(0, 0);
        Check.same("first byte", x.outputByte(0), 'a');
        Check.same("a space", x.outputByte(12), ' ');
        Check.same("last byte", x.outputByte(13), 'z');
        for (int bad : new int[] {LEAST, -1, length, length + 1, GREATEST}) {
            Check.same("byte " + bad + " of " + length, x.outputByte(bad), -1);
        }
        x.printBalances();
        Check.same("last byte of less", x.outputByte(3), '0');
        Check.same("none of what it had", x.outputByte(4), -1);
        x.printWork(0);
        Check.same("a digit", x.outputByte(0), '1');
        Check.same("a letter", x.outputByte(2), 'c');
        Check.same("none of what it had", x.outputByte(3), -1);
    }

    private static void manyChanges(LineOffice x) {
        x.appeal(0, 1);
        x.appeal(0, 3);
        Check.submit(x, 1, LIST, "one two three");
        x.payOut(0);
        x.advance(1, 500);
        Check.add(x, "cid");
        x.endow(50);
        x.pass(30);
        x.set(0, 6);
    }

    // Promises 48 and 49: "Saves everything but the input buffer, the error, the output and the changes that can be
    // undone", "Restores the saved state, which stays saved. Nothing can be undone then."
    private static void restoredStates() {
        String saved = Whole.state(Whole.calm());
        LineOffice x = Whole.calm();
        Check.same("saveState", x.saveState(), 0);
        changed("saveState is none", x, 1);
        for (int turn = 0; turn < 2; turn++) {
            manyChanges(x);
            Check.load(x, "office 1;fee 100;");
            x.printLine(0, 0);
            Check.give(x, "other");
            Check.same("restoreState", x.restoreState(), 0);
            changed("restoreState", x, 0);
            Check.throwing("nothing can be undone then", Check.ELEMENT, x::undo);
            Check.same("the error stays", x.errorOffset(), 13);
            Check.same("the output stays", Check.output(x), "one two three");
            Check.same("the buffer stays", x.wouldCount(1, LIST, 5), 1);
        }
        Check.same("the saved state", Whole.state(x), saved);
    }

    // Promise 48: "in place of an earlier saved state", "Returns the day."
    private static void savedInPlaceOfAnEarlierOne() {
        LineOffice x = new LineOffice();
        Check.same("day 0", x.saveState(), 0);
        x.pass(99);
        Check.same("day 99", x.saveState(), 99);
        x.pass(1);
        Check.same("restored", x.restoreState(), 99);
        Check.same("restored again", x.restoreState(), 99);
        LineOffice last = lastDay();
        Check.same("the last day", last.saveState(), 9999);
        last.undo();
        Check.same("the last day", last.restoreState(), 9999);
        Whole.untouched("saving twice is saving once", 0, () -> Whole.done(Whole::busy, LineOffice::saveState),
                LineOffice::saveState);
        Whole.untouched("saving and restoring, but for the changes", Whole.BUFFER,
                () -> Whole.done(() -> Whole.done(Whole::busy, LineOffice::saveState), LineOffice::restoreState),
                y -> {
                    manyChanges(y);
                    y.restoreState();
                });
    }

    // Promise 49: "if no state is saved"
    private static void noSavedState() {
        LineOffice x = new LineOffice();
        Check.throwing("a new object", Check.ELEMENT, x::restoreState);
        x.pass(1);
        x.undo();
        Check.throwing("behind a change", Check.ELEMENT, x::restoreState);
        x.saveState();
        Check.load(x, "office");
        Check.same("behind a load that failed", x.restoreState(), 0);
        Check.load(x, "office 1;writer a;");
        Check.throwing("behind a load", Check.ELEMENT, x::restoreState);
        Check.throwing("behind a load, again", Check.ELEMENT, x::restoreState);
        x.pass(3);
        x.saveState();
        Check.same("saved anew", x.restoreState(), 3);
    }

    private static void changes() {
        changesThatSucceed();
        refusedOnes();
        atMost8Changes();
        undoneOnesAreKeptNoMore();
        anUndoneOneMakesRoom();
        questionsChangeNothing();
    }

    private static void exceptions() {
        firstListedException();
        throwingChangesNothing();
        changesThatThrow();
        statesThatThrow();
    }

    private static void works() {
        twelveWorks();
        lengthsOfSubmit();
        firstBytesOfSubmit();
        answersOfAppeal();
    }

    private static void moneyAndSettings() {
        payOutUpToBalanceAndMoney();
        advancesUpToMoney();
        namesOfAddWriter();
        sixWriters();
        endowedUpTo99999();
        daysUpTo9999();
        settingsInTheirRanges();
        settingsFromNowOn();
    }

    private static void outputAndSavedState() {
        undoLeavesTheRest();
        undoAndTheSavedState();
        printedLines();
        printedWorks();
        printedBalances();
        bytesOfTheOutput();
        restoredStates();
        savedInPlaceOfAnEarlierOne();
        noSavedState();
    }

    public static void main(String[] args) {
        changes();
        exceptions();
        works();
        moneyAndSettings();
        outputAndSavedState();
        Check.end();
    }
}
