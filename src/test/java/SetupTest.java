/** Promises 1 to 6: a new object, the input buffer and the setup. */
public final class SetupTest {
    private static final String SIX = "office 1;writer a;writer b;writer c;writer d;writer e;writer f;";

    /** The load of a text has to fail with this code at this offset, and change nothing else. */
    private static void fails(String text, int code, int offset) {
        LineOffice x = Check.office("fee 9;");
        Check.submit(x, 0, 0, "some words");
        Check.same("load of '" + text + "'", Check.load(x, text), -1);
        Check.same("errorCode of '" + text + "'", x.errorCode(), code);
        Check.same("errorOffset of '" + text + "'", x.errorOffset(), offset);
        Check.same("buffer behind '" + text + "'", x.truncateInput(1) ? 1 : 0, 0);
        Check.same("writers behind '" + text + "'", x.count(0), 2);
        Check.same("works behind '" + text + "'", x.count(1), 1);
        Check.same("MONEY behind '" + text + "'", x.count(5), 1000);
        Check.same("changes behind '" + text + "'", x.count(8), 1);
        Check.same("FEE behind '" + text + "'", x.setting(6), 9);
    }

    private static LineOffice loads(String text, int writers) {
        LineOffice x = new LineOffice();
        Check.same("load of '" + text + "'", Check.load(x, text), writers);
        Check.same("errorCode of '" + text + "'", x.errorCode(), LineOffice.NO_ERROR);
        Check.same("errorOffset of '" + text + "'", x.errorOffset(), -1);
        return x;
    }

    private static void promise1NewObject() {
        LineOffice x = new LineOffice();
        int[] counts = {1, 0, 0, 0, 0, 0, 0, 0, 0};
        for (int i = 0; i < counts.length; i++) {
            Check.same("new count " + i, x.count(i), counts[i]);
        }
        int[] settings = {20, 3, 4, 2, 7, 3, 1, 10, 8, 5};
        for (int i = 0; i < settings.length; i++) {
            Check.same("new setting " + i, x.setting(i), settings[i]);
        }
        Check.same("new output", x.outputByte(0), -1);
        Check.same("new buffer", x.truncateInput(1) ? 1 : 0, 0);
        Check.same("balances of a new object", x.printBalances(), 3);
        Check.same("balances of a new object", Check.output(x), "a=0");
    }

    private static void promise2AppendInput() {
        LineOffice x = new LineOffice();
        Check.same("append", x.appendInput(0x616c6963, 0x65000000, 0, 0, 0), 20);
        x.truncateInput(5);
        Check.same("name from big-endian bytes", x.addWriter(), 1);
        x.printBalances();
        Check.same("name from big-endian bytes", Check.output(x), "a=0 alice=0");
        for (int i = 1; i <= 30; i++) {
            Check.same("append number " + i, x.appendInput(0, 0, 0, 0, 0), 20 * i);
        }
        Check.same("append beyond 600", x.appendInput(1, 1, 1, 1, 1), -1);
        Check.same("600 bytes stay", x.truncateInput(600) ? 1 : 0, 1);
        x.truncateInput(581);
        Check.same("append at 581", x.appendInput(0, 0, 0, 0, 0), -1);
        x.truncateInput(580);
        Check.same("append at 580", x.appendInput(0, 0, 0, 0, 0), 600);
        x.truncateInput(0);
        Check.give(x, "abcdefghijklmnopqrst");
        x.truncateInput(20);
        // every one of the five numbers stands at its place: four words in a list of five letters each
        LineOffice y = new LineOffice();
        y.appendInput(0x61626320, 0x64656620, 0x67686920, 0x6a6b6c20, 0x6d6e6f70);
        y.submit(0, 2, 20);
        Check.same("five numbers", Check.lines(y, 0), "abc|def|ghi|jkl|mnop");
        LineOffice z = new LineOffice();
        z.appendInput(0xff000000, 0, 0, 0, 0);
        Check.same("a byte above 127 is no letter", z.wouldCount(0, 0, 1), LineOffice.NONE);
    }

    private static void promise3TruncateInput() {
        LineOffice x = new LineOffice();
        Check.same("cut of nothing", x.truncateInput(0) ? 1 : 0, 1);
        Check.same("longer than it is", x.truncateInput(1) ? 1 : 0, 0);
        Check.give(x, "abc def ghi jkl mnop");
        Check.same("negative length", x.truncateInput(-1) ? 1 : 0, 0);
        Check.same("greater length", x.truncateInput(21) ? 1 : 0, 0);
        Check.same("greatest length", x.truncateInput(Integer.MAX_VALUE) ? 1 : 0, 0);
        Check.same("refused cuts leave it", x.wouldCount(0, 2, 20), 5);
        Check.same("same length", x.truncateInput(20) ? 1 : 0, 1);
        Check.same("shorter", x.truncateInput(7) ? 1 : 0, 1);
        Check.same("what stays", x.wouldCount(0, 2, 7), 2);
        Check.throwing("what is gone", Check.ARGUMENT, () -> x.wouldCount(0, 2, 8));
    }

    private static void promise4LoadOffice() {
        LineOffice x = loads("office 99999;measure 30;writer b;stuff 9;worn 99;writer abcdef;fine 99;term 30;"
                + "distinct 9;fee 98;prose 97;verse 96;list 95;", 2);
        int[] settings = {30, 9, 99, 99, 30, 9, 98, 97, 96, 95};
        for (int i = 0; i < settings.length; i++) {
            Check.same("loaded setting " + i, x.setting(i), settings[i]);
        }
        Check.same("loaded MONEY", x.count(5), 99999);
        x.printBalances();
        Check.same("loaded names", Check.output(x), "b=0 abcdef=0");
        Check.same("buffer is empty", x.truncateInput(1) ? 1 : 0, 0);
        loads("office 0;writer a;measure 6;stuff 2;worn 1;fine 0;term 0;distinct 1;fee 0;prose 0;verse 0;list 0;", 1);
        loads("\n office 00007 ;\n\nwriter  a\n; ", 1);
        loads("office7;writer\nb;fee3;", 1);
        loads(SIX, 6);
        Check.same("no setting told, the usual ones", loads("office 1;writer z;", 1).setting(8), 8);

        // what a load told that failed is forgotten
        LineOffice z = new LineOffice();
        Check.load(z, "office 5;writer q;writer r;measure 7;list 7;fee 77");
        Check.same("load behind one that failed", Check.load(z, "office 6;measure 8;list 8;writer q;"), 1);
        Check.same("MEASURE", z.setting(0), 8);
        Check.same("FEE", z.setting(6), 1);

        // a successful load replaces everything but the output
        LineOffice y = Check.office("fine 5;");
        Check.submit(y, 0, 0, "one two one two");
        y.pass(3);
        y.saveState();
        y.printBalances();
        String before = Check.output(y);
        Check.same("second load", Check.load(y, "office 5;writer q;"), 1);
        int[] counts = {1, 0, 0, 0, 0, 5, 0, 0, 0};
        for (int i = 0; i < counts.length; i++) {
            Check.same("count behind a load " + i, y.count(i), counts[i]);
        }
        Check.same("setting behind a load", y.setting(3), 2);
        Check.same("output behind a load", Check.output(y), before);
        Check.throwing("undo behind a load", Check.ELEMENT, y::undo);
        Check.throwing("restore behind a load", Check.ELEMENT, y::restoreState);
        Check.same("balance behind a load", y.writer(0, 0), 0);
    }

    private static void promise4Syntax() {
        fails("", 1, 0);
        fails("  \n", 1, 3);
        fails("office", 1, 6);
        fails("office 1", 1, 8);
        fails("office 1 ", 1, 9);
        fails("office;", 1, 6);
        fails("offices 1;", 1, 0);
        fails("1;", 1, 0);
        fails("writer a;", 1, 0);
        fails("office x;", 1, 7);
        fails("office 100000;", 1, 7);
        fails("office 000001;", 1, 7);
        fails("office -1;", 1, 7);
        fails("office 1,", 1, 8);
        fails("office 1;office 2;", 1, 9);
        fails("office 1;;", 1, 9);
        fails("office 1;5;", 1, 9);
        fails("office 1;writer", 1, 15);
        fails("office 1;writer;", 1, 15);
        fails("office 1;writer 5;", 1, 16);
        fails("office 1;writer a", 1, 17);
        fails("office 1;writer a b;", 1, 18);
        fails("office 1;writera;", 1, 9);
        fails("office 1;writer abcdefg;", 1, 16);
        fails("office 1;writer abcdefghijklmnopqrstuvwxyz;", 1, 16);
        fails("office 1;writer A;", 1, 16);
        fails("office 1;writer aB;", 1, 17);
        fails("office 1;writer a;measure", 1, 25);
        fails("office 1;writer a;measure 6", 1, 27);
        fails("office 1;writer a;measure;", 1, 25);
        fails("office 1;writer a;measure 20a;", 1, 28);
        fails("office 1;writer a;measure 000020;", 1, 26);
        fails("office 1;writer a;measures 6;", 1, 18);
        fails("office 1;writer a;\t", 1, 18);
        fails("office 1;writer a;" + (char) 255, 1, 18);
        for (String taken : new String[] {"office", "writer", "stuff", "worn", "fine", "term", "fee", "prose", "verse",
            "list"}) {
            fails("office 1;writer " + taken + ";", 1, 16);
        }
    }

    private static void promise4OtherErrors() {
        String[] words = {"measure", "stuff", "worn", "term", "distinct", "fine", "fee", "prose", "verse", "list"};
        int[] above = {31, 10, 100, 31, 10, 100, 100, 100, 100, 100};
        int[] below = {5, 1, 0, -1, 0, -1, -1, -1, -1, -1};
        for (int i = 0; i < words.length; i++) {
            int at = 9 + words[i].length() + 1;
            fails("office 1;" + words[i] + " " + above[i] + ";", 2, at);
            fails("office 1;" + words[i] + " 99999", 2, at);
            if (below[i] >= 0) {
                fails("office 1;" + words[i] + " " + below[i] + ";", 2, at);
            }
            fails("office 1;" + words[i] + " 6;" + words[i] + " 999999;", 3, at + 2);
        }
        fails("office 1;writer a;writer b;writer a;", 3, 34);
        fails("office 1;writer a;writer a", 3, 25);
        fails(SIX + "writer g;", 4, 63);
        fails(SIX + "writer", 4, 63);
        fails(SIX + "fee 1;writer a;", 4, 69);
        fails("office 1;", 4, 9);
        fails("office 1; \n ", 4, 12);
        fails("office 1;fee 3;", 4, 15);
        fails("office 1;fee 3", 1, 14);
        // the first error met is told
        fails("office 1;fee 100;writer A;", 2, 13);
        fails("office 1;writer A;fee 100;", 1, 16);
    }

    private static void promises5And6Errors() {
        LineOffice x = new LineOffice();
        Check.same("errorCode without a load", x.errorCode(), 0);
        Check.same("errorOffset without a load", x.errorOffset(), -1);
        Check.load(x, "office 1;stuff 1;");
        Check.same("errorCode of a range", x.errorCode(), LineOffice.OUT_OF_RANGE);
        Check.same("errorOffset of a range", x.errorOffset(), 15);
        Check.submit(x, 0, 0, "one");
        x.undo();
        Check.same("undo leaves the code", x.errorCode(), 2);
        x.saveState();
        x.restoreState();
        Check.same("restoring leaves the offset", x.errorOffset(), 15);
        Check.load(x, "office 1;writer a;");
        Check.same("errorCode behind a good load", x.errorCode(), 0);
        Check.same("errorOffset behind a good load", x.errorOffset(), -1);
    }

    public static void main(String[] args) {
        promise1NewObject();
        promise2AppendInput();
        promise3TruncateInput();
        promise4LoadOffice();
        promise4Syntax();
        promise4OtherErrors();
        promises5And6Errors();
        Check.end();
    }
}
