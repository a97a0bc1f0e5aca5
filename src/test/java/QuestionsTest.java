/** Promises 7 to 34: the questions. */
public final class QuestionsTest {
    private static final int PROSE = LineOffice.PROSE;
    private static final int VERSE = LineOffice.VERSE;
    private static final int LIST = LineOffice.LIST;
    private static final int LEAST = Integer.MIN_VALUE;
    private static final int GREATEST = Integer.MAX_VALUE;

    /**
     * Ann's works 0 and 1, Bob's work 2. Of work 1, line 0 is stale, line 1 is stuffed, line 2 is worn and line 3
     * counts; of work 2 all lines count.
     */
    private static LineOffice shelf() {
        LineOffice x = Check.office("measure 10;stuff 3;worn 2;fine 2;term 3;distinct 2;fee 1;");
        Check.submit(x, 0, PROSE, "the cat sat on the mat");
        Check.submit(x, 0, VERSE, "the cat/of a a a/the/a dog");
        Check.submit(x, 1, LIST, "the mat cat");
        return x;
    }

    private static void rowOf(String what, int[] due, java.util.function.IntUnaryOperator asked) {
        for (int i = 0; i < due.length; i++) {
            Check.same(what + " " + i, asked.applyAsInt(i), due[i]);
        }
    }

    private static void badWhats(String what, int above, java.util.function.IntUnaryOperator asked) {
        for (int bad : new int[] {LEAST, -1, above, GREATEST}) {
            Check.throwing(what + " " + bad, Check.ARGUMENT, () -> asked.applyAsInt(bad));
        }
    }

    private static void badNumbers(String what, int above, java.util.function.IntUnaryOperator asked) {
        for (int bad : new int[] {LEAST, -1, above, GREATEST}) {
            Check.throwing(what + " of " + bad, Check.INDEX, () -> asked.applyAsInt(bad));
        }
    }

    private static void promise7Count() {
        LineOffice x = shelf();
        Check.same("lines of work 1", Check.reasons(x, 1), "1230");
        x.pass(2);
        x.advance(1, 500);
        rowOf("count", new int[] {2, 3, 10, 7, 2, 500, 5, 27, 5}, x::count);
        Check.same("appeal", x.appeal(1, 0), 1);
        rowOf("count behind an appeal", new int[] {2, 3, 10, 8, 2, 500, 6, 37, 6}, x::count);
        x.payOut(0);
        Check.same("no balance above 0", x.count(7), 0);
        Check.submit(x, 0, PROSE, "two more");
        Check.submit(x, 1, PROSE, "and these of bob");
        x.undo();
        x.undo();
        x.undo();
        x.undo();
        x.undo();
        Check.same("balances of both", x.count(7), 27 + 6);
        badWhats("count", 9, x::count);
    }

    private static void promise8Setting() {
        LineOffice x = shelf();
        rowOf("setting", new int[] {10, 3, 2, 2, 3, 2, 1, 10, 8, 5}, x::setting);
        x.set(9, 77);
        Check.same("changed setting", x.setting(9), 77);
        badWhats("setting", 10, x::setting);
    }

    private static void promise9Writer() {
        LineOffice x = shelf();
        x.appeal(1, 0);
        x.appeal(1, 2);
        x.payOut(0);
        x.advance(0, 7);
        x.advance(1, 3);
        // ann: 25, 8 less 6, 10 for an appeal, 1 for a lost one; her lines that count: the cat|sat on the|mat|the cat
        // |a dog
        rowOf("ann", new int[] {-7, 2, 7, 5, 3, 1, 1, 43, 8 - 1, 2}, i -> x.writer(0, i));
        // bob: 5 of RATE for no line of 3 letters of a measure of 10, but half of it, three times
        rowOf("bob", new int[] {3, 1, 3, 3, 0, 0, 0, 3, 3, 0}, i -> x.writer(1, i));
        x.set(2, 1);
        Check.same("WORN of now", x.writer(1, 9), 3);
        x.set(2, 3);
        Check.same("WORN of now", x.writer(0, 9), 1);
        badWhats("writer", 10, i -> x.writer(0, i));
        badNumbers("writer", 2, i -> x.writer(i, 0));
        badNumbers("writer, and what", 2, i -> x.writer(i, 99));
        rowOf("no works", new int[] {0, 0, 0, 0, 0, 0, 0, 0, 0, 0}, i -> new LineOffice().writer(0, i));
    }

    private static void promise10Work() {
        LineOffice x = shelf();
        x.pass(9);
        Check.submit(x, 1, PROSE, "of of the");
        rowOf("work 0", new int[] {0, PROSE, 0, 6, 3, 3, 25, 5}, i -> x.work(0, i));
        rowOf("work 1", new int[] {0, VERSE, 0, 9, 4, 1, 8, 5}, i -> x.work(1, i));
        rowOf("work 2", new int[] {1, LIST, 0, 3, 3, 3, 6, 3}, i -> x.work(2, i));
        rowOf("work 3", new int[] {1, PROSE, 9, 3, 1, 1, 10, 2}, i -> x.work(3, i));
        badWhats("work", 8, i -> x.work(0, i));
        badNumbers("work", 4, i -> x.work(i, 0));
        badNumbers("work, and what", 4, i -> x.work(i, -5));
        LineOffice y = shelf();
        y.appeal(1, 0);
        Check.same("pay with an appeal", y.work(1, 6), 16);
        Check.same("lines that count with an appeal", y.work(1, 5), 2);
    }

    private static void promise11Line() {
        LineOffice x = shelf();
        rowOf("line 0.1", new int[] {2, 3, 10, 0, 0, 10, 3}, i -> x.line(0, 1, i));
        rowOf("line 0.2", new int[] {5, 1, 3, 0, 0, 5, 1}, i -> x.line(0, 2, i));
        rowOf("line 1.0", new int[] {0, 2, 7, 1, 1, 8, 2}, i -> x.line(1, 0, i));
        rowOf("line 1.1", new int[] {2, 4, 8, 1, 2, 8, 2}, i -> x.line(1, 1, i));
        rowOf("line 1.2", new int[] {6, 1, 3, 1, 3, 4, 1}, i -> x.line(1, 2, i));
        rowOf("line 1.3", new int[] {7, 2, 5, 0, 0, 8, 2}, i -> x.line(1, 3, i));
        rowOf("line 2.2", new int[] {2, 1, 3, 0, 0, 2, 1}, i -> x.line(2, 2, i));
        x.appeal(1, 0);
        x.appeal(1, 2);
        rowOf("granted", new int[] {0, 2, 7, 2, 1, 8, 2}, i -> x.line(1, 0, i));
        rowOf("lost", new int[] {6, 1, 3, 3, 3, 4, 1}, i -> x.line(1, 2, i));
        x.set(0, 30);
        x.set(7, 99);
        rowOf("lines stay", new int[] {5, 1, 3, 0, 0, 5, 1}, i -> x.line(0, 2, i));
        badWhats("line", 7, i -> x.line(0, 0, i));
        badNumbers("line", 3, i -> x.line(0, i, 0));
        badNumbers("line of a work", 3, i -> x.line(i, 0, 0));
        badNumbers("line, and what", 3, i -> x.line(0, i, 7));
    }

    private static void termOneLines() {
        LineOffice x = Check.office("measure 10;");
        Check.submit(x, 0, PROSE, "abcdefghijkl abc defghi abc defghij\n\nk  l");
        Check.same("wide words stand alone", Check.lines(x, 0), "abcdefghijkl|abc defghi|abc|defghij k|l");
        Check.submit(x, 0, VERSE, "//a/b c/ / d e\n/f///");
        Check.same("slashes end lines", Check.lines(x, 1), "a|b c|d e|f");
        Check.submit(x, 0, LIST, "z y\nx abcdefghijkl");
        Check.same("each word is a line", Check.lines(x, 2), "z|y|x|abcdefghijkl");
        Check.submit(x, 0, VERSE, "hijkl mnop qrs/t");
        Check.same("a line of just MEASURE", Check.lines(x, 3), "hijkl mnop|qrs|t");
        LineOffice y = Check.office("measure 7;");
        Check.submit(y, 0, PROSE, "abcdefg abcdefgh abc def");
        Check.same("a word wider than MEASURE", Check.lines(y, 0), "abcdefg|abcdefgh|abc def");
    }

    private static void termTwoPadding() {
        LineOffice x = Check.office("measure 30;stuff 2;worn 1;fine 1;");
        Check.submit(x, 0, VERSE, "a b/b a/a b/c c/a c/a a/d");
        // "b a": other order, not stale, but worn; "c c" stuffed; "a c": c does not stand in its past
        Check.same("reasons", Check.reasons(x, 0), "0312020");
        Check.submit(x, 1, VERSE, "a b/c");
        Check.same("another writer has another past", Check.reasons(x, 1), "00");
        LineOffice y = Check.office("measure 30;stuff 3;worn 2;");
        // a stands in one line of the past, though twice in "a a", and then in two; b in one, and then in two
        Check.submit(y, 0, VERSE, "a a/a c/a/b/c b/b a");
        Check.same("in each line counted once", Check.reasons(y, 0), "003003");
        Check.submit(y, 0, VERSE, "b/a a a/a a");
        Check.same("stale comes first, stuffed ahead of worn", Check.reasons(y, 1), "121");
        LineOffice z = Check.office("measure 30;stuff 2;worn 9;distinct 1;term 9;");
        Check.submit(z, 0, VERSE, "a a/a a");
        Check.same("lines that are caught are no past", Check.reasons(z, 0), "22");
        z.appeal(0, 1);
        Check.submit(z, 0, VERSE, "a a/b");
        Check.same("lines that count by an appeal are past", Check.reasons(z, 1), "10");
    }

    private static void promise12LikeLine() {
        LineOffice x = shelf();
        Check.same("stale line", x.likeLine(1, 0), 0);
        Check.same("itself", x.likeLine(0, 0), LineOffice.NONE);
        Check.same("other words", x.likeLine(1, 3), LineOffice.NONE);
        Check.same("of another writer", x.likeLine(2, 1), LineOffice.NONE);
        Check.submit(x, 0, LIST, "q r q mat");
        Check.same("of the same work", x.likeLine(3, 2), 300);
        Check.same("of the first work", x.likeLine(3, 3), 2);
        Check.submit(x, 1, LIST, "q r r");
        Check.same("of the same work, not its first line", x.likeLine(4, 2), 401);
        x.undo();
        Check.submit(x, 0, VERSE, "of a a a/cat the/of a a");
        Check.same("whether it counts or not", x.likeLine(4, 0), 101);
        Check.same("other order", x.likeLine(4, 1), LineOffice.NONE);
        Check.same("one word less", x.likeLine(4, 2), LineOffice.NONE);
        badNumbers("likeLine", 3, i -> x.likeLine(0, i));
        badNumbers("likeLine of a work", 5, i -> x.likeLine(i, 0));
    }

    private static void promise13Letters() {
        LineOffice x = shelf();
        Check.submit(x, 0, PROSE, "abcdefghijkl zz");
        rowOf("letters", new int[] {3, 3, 3, 2, 3, 3}, i -> x.letters(0, i));
        rowOf("letters", new int[] {12, 2}, i -> x.letters(3, i));
        badNumbers("letters", 6, i -> x.letters(0, i));
        badNumbers("letters of a work", 4, i -> x.letters(i, 0));
    }

    private static void promise14Uses() {
        LineOffice x = shelf();
        Check.same("the", Check.uses(x, 0, "the"), 2);
        Check.same("buffer is empty then", x.truncateInput(1) ? 1 : 0, 0);
        Check.same("a, of lines that count", Check.uses(x, 0, "a"), 1);
        Check.same("of", Check.uses(x, 0, "of"), 0);
        Check.same("of bob", Check.uses(x, 1, "the"), 1);
        Check.same("an unknown word", Check.uses(x, 0, "thes"), 0);
        for (String no : new String[] {"", "the ", " the", "the cat", "The", "abcdefghijklm"}) {
            Check.same("no word: " + no, Check.uses(x, 0, no), 0);
        }
        Check.give(x, "the ");
        Check.same("no word", x.uses(0), 0);
        Check.same("buffer is empty behind no word", x.truncateInput(1) ? 1 : 0, 0);
        Check.give(x, "the");
        badNumbers("uses", 2, x::uses);
        Check.same("buffer stays if it throws", x.uses(0), 2);
        x.appeal(1, 0);
        Check.same("with an appeal", Check.uses(x, 0, "the"), 3);
        Check.same("twice in a line", Check.submit(x, 1, PROSE, "abcdefghijkl abcdefghijkl x x"), 3);
        Check.same("counted once", Check.uses(x, 1, "x"), 1);
        Check.same("of 12 letters", Check.uses(x, 1, "abcdefghijkl"), 1);
        Check.same("changes", x.count(8), 5);
    }

    private static void promise15Favourite() {
        LineOffice x = shelf();
        Check.same("ann's", x.favourite(0), 0);
        Check.same("bob's, on a tie", x.favourite(1), 200);
        Check.submit(x, 1, VERSE, "a mat/b mat");
        Check.same("bob's then", x.favourite(1), 201);
        Check.same("ann's behind bob's", x.favourite(0), 0);
        Check.submit(x, 0, VERSE, "new cat/old cat/no cat");
        Check.same("ann's then", x.favourite(0), 1);
        Check.same("bob's behind ann's", x.favourite(1), 201);
        badNumbers("favourite", 2, x::favourite);
        LineOffice y = Check.office("measure 30;stuff 2;worn 99;");
        Check.same("without works", y.favourite(0), LineOffice.NONE);
        Check.submit(y, 0, VERSE, "q q z");
        Check.same("without a line that counts", y.favourite(0), LineOffice.NONE);
        Check.submit(y, 0, VERSE, "x/y z");
        Check.same("on a tie that which stands first", y.favourite(0), 2);
        Check.submit(y, 0, VERSE, "x y");
        Check.same("the most lines", y.favourite(0), 100);
    }

    private static void promise16Common() {
        LineOffice x = shelf();
        Check.same("common", x.common(0, 1), 2);
        Check.same("common the other way", x.common(1, 0), 2);
        Check.same("common with another writer's", x.common(0, 2), 3);
        Check.same("with itself", x.common(1, 1), 5);
        badNumbers("common", 3, i -> x.common(i, 0));
        badNumbers("common with", 3, i -> x.common(0, i));
        Check.submit(x, 0, PROSE, "xx yy");
        Check.same("none", x.common(3, 0), 0);
    }

    private static void promise17NewWords() {
        LineOffice x = shelf();
        Check.same("of the first work", x.newWords(0), 5);
        Check.same("of the second", x.newWords(1), 3);
        Check.same("of another writer", x.newWords(2), 3);
        Check.submit(x, 1, PROSE, "cat sat sat cat");
        Check.same("other works of bob", x.newWords(3), 1);
        Check.submit(x, 1, PROSE, "cat sat");
        Check.same("none", x.newWords(4), 0);
        Check.submit(x, 1, PROSE, "sat on the");
        Check.same("the first word of a work", x.newWords(5), 1);
        x.undo();
        badNumbers("newWords", 5, x::newWords);
    }

    private static void promise18Widest() {
        LineOffice x = shelf();
        Check.same("in the middle", x.widest(0), 1);
        Check.same("then", x.widest(1), 1);
        Check.same("the smallest on a tie", x.widest(2), 0);
        Check.submit(x, 0, LIST, "a bb ccc bbb a");
        Check.same("on a tie", x.widest(3), 2);
        Check.submit(x, 0, LIST, "a bb ccc dddd");
        Check.same("the last", x.widest(4), 3);
        badNumbers("widest", 5, x::widest);
    }

    private static void promise19CopiedFrom() {
        LineOffice x = shelf();
        Check.same("mat", x.copiedFrom(0), 2);
        Check.same("mat, the, from one work each", x.copiedFrom(2), 0);
        Check.submit(x, 1, VERSE, "of a a a/the/the/nothing");
        Check.same("most lines", x.copiedFrom(3), 1);
        Check.same("most lines of work 1", x.copiedFrom(1), 3);
        Check.submit(x, 0, LIST, "the the mat");
        // the lines "the" of work 4 stand in works 2 and 3 each, "mat" in work 2 alone
        Check.same("each line counted once", x.copiedFrom(4), 2);
        Check.submit(x, 0, LIST, "unheard");
        Check.same("none", x.copiedFrom(5), LineOffice.NONE);
        Check.submit(x, 0, LIST, "sat");
        Check.same("not of the same writer, nor a part of a line", x.copiedFrom(6), LineOffice.NONE);
        Check.submit(x, 1, PROSE, "cat the");
        Check.same("not in another order", x.copiedFrom(7), LineOffice.NONE);
        badNumbers("copiedFrom", 8, x::copiedFrom);
    }

    private static void promise20Entry() {
        LineOffice x = shelf();
        x.pass(3);
        x.appeal(1, 0);
        x.appeal(1, 2);
        x.pass(1);
        x.payOut(1);
        x.advance(0, 9);
        int[][] due = {{0, 0, 0, 25}, {0, 0, 0, 8}, {0, 0, 1, -6}, {0, 1, 0, 6}, {3, 0, 2, 10}, {3, 0, 3, -1},
            {4, 1, 4, -6}, {4, 0, 5, -9}};
        for (int i = 0; i < due.length; i++) {
            int entry = i;
            rowOf("entry " + i, due[i], what -> x.entry(entry, what));
        }
        badNumbers("entry", 8, i -> x.entry(i, 0));
        badNumbers("entry, and what", 8, i -> x.entry(i, 9));
        badWhats("entry", 4, i -> x.entry(0, i));
        for (int i = 1; i <= 22; i++) {
            x.advance(1, i);
        }
        Check.same("30 entries", x.count(6), 30);
        Check.same("the first of 30", x.entry(0, 3), 25);
        x.advance(1, 23);
        Check.same("30 entries are kept", x.count(6), 30);
        Check.same("the earliest one is gone", x.entry(0, 3), 8);
        Check.same("the latest one", x.entry(29, 3), -23);
        badNumbers("entry of 30", 30, i -> x.entry(i, 0));
        x.undo();
        Check.same("it is back", x.entry(0, 3), 25);
    }

    private static void noEntriesOfNothing() {
        LineOffice x = Check.office("prose 0;fine 0;fee 0;measure 30;stuff 2;distinct 1;term 9;");
        Check.submit(x, 0, VERSE, "a a/b b b");
        Check.same("no pay, no FINE", x.count(6), 0);
        Check.submit(x, 0, PROSE, "some word");
        Check.same("RATE 0", x.count(6), 0);
        x.set(5, 9);
        x.appeal(0, 0);
        Check.same("FEE 0", x.count(6), 0);
        x.payOut(0);
        Check.same("nothing paid out", x.count(6), 0);
        Check.submit(x, 0, PROSE, "q q");
        x.set(5, 1);
        Check.same("granted", x.appeal(2, 0), 1);
        Check.same("granted for nothing", x.count(6), 0);
        x.set(3, 1);
        Check.submit(x, 0, PROSE, "r r");
        Check.same("fines alone", x.count(6), 1);
        Check.same("fines alone", x.entry(0, 2), 1);
    }

    private static void promise21Booked() {
        LineOffice x = shelf();
        x.pass(4);
        x.advance(0, 9);
        x.pass(1);
        x.advance(0, 1);
        Check.same("all", x.booked(0, LEAST, GREATEST), 17);
        Check.same("day 0", x.booked(0, 0, 0), 27);
        Check.same("days 1 to 4", x.booked(0, 1, 4), -9);
        Check.same("days 4 to 5", x.booked(0, 4, 5), -10);
        Check.same("days 1 to 3", x.booked(0, 1, 3), 0);
        Check.same("backwards", x.booked(0, 5, 0), 0);
        Check.same("bob", x.booked(1, 0, 9), 6);
        badNumbers("booked", 2, i -> x.booked(i, 0, 9));
    }

    private static LineOffice office4() {
        LineOffice x = Check.office("");
        Check.add(x, "cid");
        Check.add(x, "dee");
        return x;
    }

    private static void promises22And23RichestAndRank() {
        LineOffice x = office4();
        Check.same("all the same", x.richest(), 0);
        rowOf("ranks", new int[] {0, 1, 2, 3}, x::rank);
        x.advance(0, 5);
        x.advance(2, 5);
        Check.same("richest", x.richest(), 1);
        rowOf("ranks", new int[] {2, 0, 3, 1}, x::rank);
        x.advance(1, 2);
        x.advance(3, 1);
        Check.same("all below 0", x.richest(), 3);
        x.undo();
        x.undo();
        Check.submit(x, 3, PROSE, "a few words of mine");
        Check.same("richest", x.richest(), 3);
        rowOf("ranks", new int[] {2, 1, 3, 0}, x::rank);
        badNumbers("rank", 4, x::rank);
    }

    private static void promise24MeanWidth() {
        LineOffice x = shelf();
        Check.same("mean", x.meanWidth(0), 20.0 / 3.0);
        Check.same("mean", x.meanWidth(1), 23.0 / 4.0);
        Check.same("mean", x.meanWidth(2), 3.0);
        Check.submit(x, 0, PROSE, "one line");
        Check.same("mean of a line", x.meanWidth(3), 8.0);
        x.undo();
        for (int bad : new int[] {LEAST, -1, 3, GREATEST}) {
            Check.throwing("meanWidth of " + bad, Check.INDEX, () -> x.meanWidth(bad));
        }
    }

    private static void promise25CaughtShare() {
        LineOffice x = shelf();
        Check.same("share", x.caughtShare(0), 3.0f / 7.0f);
        Check.same("none caught", x.caughtShare(1), 0.0);
        x.appeal(1, 0);
        Check.same("as they were handed in", x.caughtShare(0), 3.0f / 7.0f);
        Check.same("without lines", new LineOffice().caughtShare(0), 0.0);
        Check.submit(x, 1, LIST, "the the");
        Check.same("share of bob", x.caughtShare(1), 2.0f / 5.0f);
        for (int bad : new int[] {LEAST, -1, 2, GREATEST}) {
            Check.throwing("caughtShare of " + bad, Check.INDEX, () -> x.caughtShare(bad));
        }
    }

    private static void promises26To28OtherMeasures() {
        LineOffice x = shelf();
        Check.same("linesIf 6", x.linesIf(0, 6), 5);
        Check.same("linesIf 10", x.linesIf(0, 10), 3);
        Check.same("linesIf 22", x.linesIf(0, 22), 1);
        Check.same("linesIf 21", x.linesIf(0, 21), 2);
        Check.same("slashes stay", x.linesIf(1, 30), 4);
        Check.same("slashes stay", x.linesIf(1, 6), 6);
        Check.same("list", x.linesIf(2, 30), 3);
        Check.same("payIf 30", x.payIf(0, 30), 10);
        Check.same("payIf 10", x.payIf(0, 10), 25);
        Check.same("payIf 6", x.payIf(0, 6), 50);
        Check.same("all lines count", x.payIf(1, 10), 8 + 8 + 4 + 8);
        Check.same("half of an odd RATE", x.payIf(2, 7), 6);
        Check.same("twice its width is MEASURE", x.payIf(2, 6), 15);
        x.set(9, 7);
        Check.same("RATE of now", x.payIf(2, 6), 21);
        Check.same("bestMeasure", x.bestMeasure(0), 6);
        Check.same("bestMeasure on a tie", x.bestMeasure(2), 6);
        for (int bad : new int[] {LEAST, 5, 31, GREATEST}) {
            Check.throwing("linesIf with " + bad, Check.ARGUMENT, () -> x.linesIf(0, bad));
            Check.throwing("payIf with " + bad, Check.ARGUMENT, () -> x.payIf(0, bad));
        }
        badNumbers("linesIf", 3, i -> x.linesIf(i, 5));
        badNumbers("payIf", 3, i -> x.payIf(i, 31));
        badNumbers("bestMeasure", 3, x::bestMeasure);
        bestMeasures();
    }

    private static int bestFor(LineOffice x, String text) {
        return x.bestMeasure(Check.submit(x, 0, PROSE, text));
    }

    private static void bestMeasures() {
        LineOffice x = Check.office("");
        // by 6 a|abcdef|g pays 5 + 10 + 5, by 8 "a abcdef|g" pays 10 + 5
        Check.same("a smaller measure", bestFor(x, "a abcdef g"), 6);
        // by 6 aa|bbbb c|dd eee|f gggg pays 5 + 10 + 10 + 10, by 7 "aa bbbb|c dd|eee f|gggg" pays 40
        Check.same("a greater measure", bestFor(x, "aa bbbb c dd eee f gggg"), 7);
        Check.same("payIf 6", x.payIf(1, 6), 35);
        Check.same("payIf 7", x.payIf(1, 7), 40);
        x.set(7, 0);
        Check.same("nothing is paid", x.bestMeasure(1), 6);
        x.set(7, 1);
        // half of 1 is 0: by 6 three lines pay, by 7 four
        Check.same("half of RATE is cut", x.payIf(1, 6), 3);
        Check.same("RATE of now", x.bestMeasure(1), 7);
        // by 6 "aa bbb|cc|dddd e|ff" pays 2, by 7 "aa bbb|cc dddd|e ff" pays 3, and by 8 the same
        Check.same("a tie above 6", bestFor(x, "aa bbb cc dddd e ff"), 7);
    }

    private static void promises29And30Would() {
        LineOffice x = shelf();
        Check.give(x, "the cat/a b/the the the/sat");
        // lines the cat|a b|the the|the|sat: for ann the first one is stale, and the third and fourth are worn
        Check.same("verse", x.wouldCount(0, VERSE, 27), 2);
        Check.same("pay of verse", x.wouldPay(0, VERSE, 27), 4 + 4 - 3 * 2);
        Check.same("verse of bob", x.wouldCount(1, VERSE, 27), 3);
        Check.same("pay of bob", x.wouldPay(1, VERSE, 27), 8 + 4 + 4 - 2 * 2);
        Check.same("the first bytes", x.wouldCount(1, VERSE, 11), 2);
        Check.same("a cut word", x.wouldCount(1, LIST, 6), 1);
        Check.same("slash in prose", x.wouldCount(1, PROSE, 8), LineOffice.NONE);
        Check.same("slash in prose", x.wouldPay(1, PROSE, 8), 0);
        Check.same("slash in a list", x.wouldCount(1, LIST, 8), LineOffice.NONE);
        Check.same("no word", x.wouldCount(1, PROSE, 0), LineOffice.NONE);
        Check.same("no word", x.wouldPay(1, PROSE, 0), 0);
        Check.same("less than before", x.wouldPay(0, PROSE, 7), -2);
        Check.same("nothing is handed in", x.count(1), 3);
        Check.same("no change", x.count(8), 3);
        badNumbers("wouldCount", 2, i -> x.wouldCount(i, 9, 99));
        badNumbers("wouldPay", 2, i -> x.wouldPay(i, 9, 99));
        for (int bad : new int[] {LEAST, -1, 3, GREATEST}) {
            Check.throwing("wouldCount of kind " + bad, Check.ARGUMENT, () -> x.wouldCount(0, bad, 3));
            Check.throwing("wouldPay of kind " + bad, Check.ARGUMENT, () -> x.wouldPay(0, bad, 3));
        }
        for (int bad : new int[] {LEAST, -1, 28, GREATEST}) {
            Check.throwing("wouldCount of length " + bad, Check.ARGUMENT, () -> x.wouldCount(0, VERSE, bad));
            Check.throwing("wouldPay of length " + bad, Check.ARGUMENT, () -> x.wouldPay(0, VERSE, bad));
        }
        Check.same("the buffer stays", x.truncateInput(27) ? 1 : 0, 1);
        for (int i = 3; i < 12; i++) {
            Check.submit(x, 0, LIST, "the the");
        }
        Check.give(x, "fresh words");
        Check.same("with 12 works", x.wouldCount(0, PROSE, 11), 2);
        Check.same("pay with 12 works", x.wouldPay(0, PROSE, 11), 20);
    }

    private static void lengthsAbove500() {
        LineOffice x = new LineOffice();
        for (int i = 0; i < 30; i++) {
            x.appendInput(0x20202020, 0x20202020, 0x20202020, 0x20202020, 0x20202061);
        }
        Check.same("500 bytes", x.wouldCount(0, LIST, 500), 1);
        Check.same("500 bytes", x.wouldPay(0, LIST, 500), 2 - 24 * 2);
        Check.throwing("501 bytes", Check.ARGUMENT, () -> x.wouldCount(0, LIST, 501));
        Check.throwing("501 bytes", Check.ARGUMENT, () -> x.wouldPay(0, LIST, 501));
        Check.throwing("501 bytes", Check.ARGUMENT, () -> x.submit(0, LIST, 501));
        Check.same("the buffer stays", x.truncateInput(600) ? 1 : 0, 1);
        Check.same("500 bytes", x.submit(0, LIST, 500), 0);
        Check.same("all is taken", x.truncateInput(1) ? 1 : 0, 0);
        Check.same("words of 500 bytes", x.work(0, 3), 25);
    }

    private static void promise31CountsIf() {
        LineOffice x = shelf();
        Check.same("as it is", x.countsIf(1, 0, 10), 1);
        Check.same("WORN", x.countsIf(1, 2, 9), 2);
        Check.same("STUFF", x.countsIf(1, 1, 4), 2);
        Check.same("STUFF 2", x.countsIf(1, 1, 2), 1);
        Check.same("MEASURE", x.countsIf(0, 0, 6), 4);
        Check.same("MEASURE 30", x.countsIf(0, 0, 30), 1);
        for (int what = 3; what < 10; what++) {
            Check.same("setting " + what, x.countsIf(1, what, 9), 1);
        }
        x.set(2, 9);
        Check.same("others as they are now", x.countsIf(1, 1, 4), 3);
        Check.same("others as they are now", x.countsIf(1, 0, 30), 2);
        x.undo();
        Check.same("nothing changed", Check.reasons(x, 1), "1230");
        Check.same("nothing changed", x.setting(0), 10);
        // an appeal makes a line of the past count
        Check.submit(x, 0, PROSE, "of a a a");
        Check.same("reason", Check.reasons(x, 3), "2");
        Check.same("STUFF 4", x.countsIf(3, 1, 4), 1);
        x.appeal(1, 1);
        Check.same("STUFF 4, and stale by the past as it is now", x.countsIf(3, 1, 4), 0);
        int[] above = {31, 10, 100, 100, 31, 10, 100, 100, 100, 100};
        int[] below = {5, 1, 0, -1, -1, 0, -1, -1, -1, -1};
        for (int i = 0; i < 10; i++) {
            int what = i;
            Check.throwing("countsIf above " + i, Check.ARGUMENT, () -> x.countsIf(0, what, above[what]));
            Check.throwing("countsIf below " + i, Check.ARGUMENT, () -> x.countsIf(0, what, below[what]));
            Check.same("highest of " + i, x.countsIf(2, what, above[what] - 1), 3);
            Check.same("lowest of " + i, x.countsIf(2, what, below[what] + 1), 3);
        }
        badWhats("countsIf", 10, i -> x.countsIf(0, i, 9));
        badNumbers("countsIf", 4, i -> x.countsIf(i, 10, 9));
    }

    private static void promises32And33WhyNotAndHopes() {
        LineOffice x = shelf();
        Check.same("it counts", x.whyNot(0, 0), 1);
        Check.same("there can be one", x.whyNot(1, 0), 0);
        Check.same("hopes", x.hopes(0), 2);
        Check.same("hopes of bob", x.hopes(1), 0);
        x.set(5, 1);
        Check.same("hopes with DISTINCT 1", x.hopes(0), 3);
        x.set(5, 3);
        Check.same("hopes with DISTINCT 3", x.hopes(0), 0);
        x.set(5, 2);
        x.pass(3);
        Check.same("the last day", x.whyNot(1, 2), 0);
        Check.same("hopes of the last day", x.hopes(0), 2);
        x.pass(1);
        Check.same("too late", x.whyNot(1, 2), 2);
        Check.same("it counts, and is too late", x.whyNot(1, 3), 1);
        Check.same("hopes that are too late", x.hopes(0), 0);
        x.set(4, 4);
        Check.same("TERM of now", x.whyNot(1, 2), 0);
        x.appeal(1, 0);
        Check.same("it was granted", x.whyNot(1, 0), 1);
        Check.same("hopes then", x.hopes(0), 1);
        x.appeal(1, 2);
        Check.same("it was lost", x.whyNot(1, 2), 1);
        Check.submit(x, 0, LIST, "mat mat mat");
        x.appeal(3, 0);
        Check.same("two were lost", x.whyNot(3, 2), 0);
        Check.same("hopes with two lost", x.hopes(0), 1);
        x.appeal(3, 1);
        Check.same("three were lost", x.whyNot(3, 2), 3);
        Check.same("no hopes with three lost", x.hopes(0), 0);
        Check.submit(x, 1, LIST, "mat");
        Check.same("another writer", x.whyNot(4, 0), 0);
        x.pass(5);
        Check.same("too late comes first", x.whyNot(3, 2), 2);
        LineOffice y = Check.office("stuff 2;distinct 2;");
        Check.submit(y, 0, VERSE, "a b a/c c");
        Check.submit(y, 0, VERSE, "d e d");
        Check.same("hopes of the first work and the second", y.hopes(0), 2);
        badNumbers("whyNot", 4, i -> x.whyNot(1, i));
        badNumbers("whyNot of a work", 5, i -> x.whyNot(i, 0));
        badNumbers("hopes", 2, x::hopes);
    }

    private static void promise34LongestRun() {
        LineOffice x = shelf();
        Check.same("all count", x.longestRun(0), 3);
        Check.same("one counts", x.longestRun(1), 1);
        Check.submit(x, 0, LIST, "mat mat");
        Check.same("none counts", x.longestRun(3), 0);
        Check.submit(x, 1, LIST, "q r mat s t u cat v");
        Check.same("side by side", x.longestRun(4), 3);
        x.set(5, 1);
        x.appeal(4, 2);
        Check.same("with an appeal", x.longestRun(4), 6);
        badNumbers("longestRun", 5, x::longestRun);
    }

    /** Twelve lists of sixty different words, all of writer 0: as many lines as there can be. */
    private static LineOffice shelfOf720(String settings) {
        LineOffice x = Check.office(settings);
        for (int i = 0; i < 12; i++) {
            Check.same("work " + i, Check.submit(x, 0, LIST, Check.words(60 * i, 60, " ")), i);
        }
        return x;
    }

    /** What is told of the text that is all in the buffer then. */
    private static void would(LineOffice x, int kind, String text, int count, int pay) {
        x.truncateInput(0);
        Check.give(x, text);
        Check.same("wouldCount behind 720 lines: " + text, x.wouldCount(0, kind, text.length()), count);
        Check.same("wouldPay behind 720 lines: " + text, x.wouldPay(0, kind, text.length()), pay);
    }

    /** The lines of a 13th work are past for those that follow, though the shelf is full. */
    private static void thirteenthWork() {
        LineOffice x = shelfOf720("fine 3;");
        would(x, LIST, "zzz zzz", 1, 2 - 3);
        // the shelf goes from aaa to bbr
        would(x, LIST, "aaa zzz bbr zzz bbs", 2, 2 * 2 - 3 * 3);
        String fresh = Check.words(720, 58, " ");
        would(x, LIST, fresh + "zzz zzz", 59, 59 * 2 - 3);
        would(x, LIST, fresh + "zzz bdx", 59, 59 * 2 - 3);
        would(x, LIST, Check.words(720, 60, " "), 60, 60 * 2);
        would(x, VERSE, Check.words(720, 59, "/") + "zzz", 60, 60 * 4);
        would(x, VERSE, "zzz yyy/yyy zzz/zzz yyy/aaa/aaa zzz", 3, 3 * 4 - 2 * 3);
        x.set(2, 1);
        would(x, VERSE, "zzz/yyy aaa/yyy zzz/aaa yyy zzz/xxx", 3, 3 * 4 - 2 * 3);
        would(x, VERSE, Check.words(720, 57, "/") + "zzz/zzz bdw", 58, 58 * 4 - 3);
        x.set(2, 2);
        would(x, VERSE, "zzz/yyy zzz/zzz xxx/xxx zzz aaa/xxx zzz/zzz", 4, 3 * 4 + 8 - 2 * 3);
        Check.same("nothing is handed in", x.count(3), 720);
        Check.same("there are 12 works", Check.submit(x, 0, LIST, "zzz zzz"), LineOffice.FULL);
        // the other writer has no past
        x.truncateInput(0);
        Check.give(x, "aaa aaa aab");
        Check.same("another writer", x.wouldCount(1, LIST, 11), 2);
        Check.same("another writer", x.wouldPay(1, LIST, 11), 2 * 2 - 3);
    }

    /** Where some lines of a full shelf count by an appeal alone, they are past as the others are. */
    private static void thirteenthWorkBehindAppeals() {
        LineOffice x = Check.office("stuff 2;distinct 1;fine 3;");
        for (int i = 0; i < 11; i++) {
            Check.submit(x, 0, LIST, Check.words(60 * i, 60, " "));
        }
        Check.submit(x, 0, VERSE, "zzz zzz/" + Check.words(660, 58, "/"));
        Check.same("one is caught", x.count(3), 11 * 60 + 58);
        Check.same("it is granted", x.appeal(11, 0), 1);
        would(x, VERSE, "zzz zzz/zzz/zzz/yyy", 2, 2 * 4 - 2 * 3);
        x.undo();
        would(x, VERSE, "zzz zzz/zzz/zzz/yyy", 2, 2 * 4 - 2 * 3);
        Check.same("reason as it is looked at", x.line(11, 0, 4), 2);
    }

    private static void fullShelf() {
        LineOffice x = shelfOf720("list 99;worn 1;stuff 2;fine 99;distinct 1;");
        Check.same("lines", x.count(2), 720);
        Check.same("those that count", x.count(3), 720);
        Check.same("different words", x.writer(0, 8), 720);
        Check.same("balance", x.writer(0, 0), 720 * 49);
        Check.same("the last word", Check.uses(x, 0, "bbr"), 1);
        would(x, LIST, "bbr zzz", 1, 49 - 99);
        Check.same("favourite", x.favourite(0), 0);
        Check.same("countsIf", x.countsIf(11, 0, 6), 60);
        Check.same("likeLine", x.likeLine(11, 59), LineOffice.NONE);
        Check.same("newWords", x.newWords(11), 60);
        Check.same("longestRun", x.longestRun(11), 60);
    }

    public static void main(String[] args) {
        fullShelf();
        thirteenthWork();
        thirteenthWorkBehindAppeals();
        promise7Count();
        promise8Setting();
        promise9Writer();
        promise10Work();
        promise11Line();
        termOneLines();
        termTwoPadding();
        promise12LikeLine();
        promise13Letters();
        promise14Uses();
        promise15Favourite();
        promise16Common();
        promise17NewWords();
        promise18Widest();
        promise19CopiedFrom();
        promise20Entry();
        noEntriesOfNothing();
        promise21Booked();
        promises22And23RichestAndRank();
        promise24MeanWidth();
        promise25CaughtShare();
        promises26To28OtherMeasures();
        promises29And30Would();
        lengthsAbove500();
        promise31CountsIf();
        promises32And33WhyNotAndHopes();
        promise34LongestRun();
        Check.end();
    }
}
