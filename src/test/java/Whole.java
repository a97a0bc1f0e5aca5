/**
 * All that an object answers, as texts: two objects are the same if they tell the same now, after each undoing, and
 * after the saved state is restored. What is looked at ends the object's use, so that each look takes a new one.
 */
final class Whole {
    static final int BUFFER = 1;
    static final int OUTPUT = 2;
    static final int ERROR = 4;
    private static final int MOST_UNDONE = 9;

    interface Maker {
        LineOffice make();
    }

    interface Act {
        void on(LineOffice x);
    }

    private Whole() { }

    /**
     * An office in full swing: 8 changes are kept, a state is saved that is another one by now, the last load failed,
     * the output holds a work and the buffer some words.
     */
    static LineOffice busy() {
        LineOffice x = Check.office("measure 10;stuff 2;worn 2;distinct 2;fine 3;fee 4;term 9;");
        Check.load(x, "office 7;fee 77;fee 7;");
        Check.submit(x, 0, LineOffice.VERSE, "the cat/the cat/a a/cat/the the/cat sat");
        Check.submit(x, 1, LineOffice.LIST, "one two one");
        x.pass(2);
        x.appeal(0, 1);
        x.saveState();
        x.appeal(0, 2);
        x.endow(5);
        x.advance(1, 30);
        Check.submit(x, 0, LineOffice.PROSE, "the cat sat on the mat");
        x.printWork(0);
        Check.give(x, "some rest");
        return x;
    }

    /** A quiet office: one change is kept, nothing is saved, and there is money left to be spent. */
    static LineOffice calm() {
        LineOffice x = Check.office("stuff 2;distinct 1;");
        Check.submit(x, 0, LineOffice.VERSE, "one two three/four four/one two three/five five");
        return x;
    }

    /** What an act does to an office is nothing at all, but for those parts that are left out. */
    static void untouched(String what, int leftOut, Maker maker, Act act) {
        same(what, leftOut, () -> done(maker, act), maker);
    }

    static LineOffice done(Maker maker, Act act) {
        LineOffice x = maker.make();
        act.on(x);
        return x;
    }

    /** An act throws this, and changes nothing. */
    static void throwing(String what, Class<? extends RuntimeException> due, Maker maker, Act act) {
        Check.throwing(what, due, () -> act.on(maker.make()));
        untouched(what, 0, maker, x -> {
            try {
                act.on(x);
            } catch (RuntimeException e) {
                // which one it is was looked at
            }
        });
    }

    static void same(String what, int leftOut, Maker got, Maker due) {
        Check.same(what + ": now", beside(got.make(), leftOut), beside(due.make(), leftOut));
        Check.same(what + ": state", state(got.make()), state(due.make()));
        Check.same(what + ": restored", restored(got.make()), restored(due.make()));
        for (int i = 1; i <= MOST_UNDONE; i++) {
            Check.same(what + ": undone " + i, undone(got.make(), i), undone(due.make(), i));
        }
        if ((leftOut & BUFFER) == 0) {
            Check.same(what + ": buffer", buffer(got.make()), buffer(due.make()));
        }
    }

    /** What undoing and restoring give back. The output is another one then. */
    static String state(LineOffice x) {
        StringBuilder told = new StringBuilder();
        for (int what = 0; what <= 7; what++) {
            told.append(x.count(what)).append(' ');
        }
        for (int what = 0; what <= 9; what++) {
            told.append(x.setting(what)).append(' ');
        }
        for (int writer = 0; writer < x.count(0); writer++) {
            for (int what = 0; what <= 9; what++) {
                told.append(what == 0 ? "; writer " : " ").append(x.writer(writer, what));
            }
        }
        for (int work = 0; work < x.count(1); work++) {
            for (int what = 0; what <= 7; what++) {
                told.append(what == 0 ? "; work " : " ").append(x.work(work, what));
            }
            for (int line = 0; line < x.work(work, 4); line++) {
                for (int what = 0; what <= 6; what++) {
                    told.append(what == 0 ? ", " : " ").append(x.line(work, line, what));
                }
            }
        }
        for (int entry = 0; entry < x.count(6); entry++) {
            for (int what = 0; what <= 3; what++) {
                told.append(what == 0 ? "; entry " : " ").append(x.entry(entry, what));
            }
        }
        x.printBalances();
        return told.append("; ").append(Check.output(x)).toString();
    }

    /** What undoing leaves as it is, and how many changes are kept. */
    private static String beside(LineOffice x, int leftOut) {
        StringBuilder told = new StringBuilder("changes " + x.count(8));
        if ((leftOut & ERROR) == 0) {
            told.append(", error ").append(x.errorCode()).append(" at ").append(x.errorOffset());
        }
        if ((leftOut & OUTPUT) == 0) {
            told.append(", output ").append(Check.output(x));
        }
        return told.toString();
    }

    private static String restored(LineOffice x) {
        try {
            return "day " + x.restoreState() + ", changes " + x.count(8) + ": " + state(x);
        } catch (java.util.NoSuchElementException e) {
            return "nothing is saved: " + state(x);
        }
    }

    private static String undone(LineOffice x, int often) {
        StringBuilder told = new StringBuilder();
        for (int i = 0; i < often; i++) {
            try {
                told.append(x.undo()).append(' ');
            } catch (java.util.NoSuchElementException e) {
                told.append("nothing ");
            }
        }
        return told.append(state(x)).toString();
    }

    /** The buffer's length, 40 at most, and its letters, as far as they can be handed in as the words of a list. */
    static String buffer(LineOffice x) {
        int length = 0;
        for (int i = 40; i > 0 && length == 0; i--) {
            length = x.truncateInput(i) ? i : 0;
        }
        int readable = x.submit(0, LineOffice.LIST, length);
        return length + " bytes: " + (readable < 0 ? "no words" : Check.lines(x, readable));
    }
}
