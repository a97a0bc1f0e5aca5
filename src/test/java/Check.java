/** What the tests share: they tell every answer that is not due, and end with exit code 1 if there was one. */
final class Check {
    static final Class<IndexOutOfBoundsException> INDEX = IndexOutOfBoundsException.class;
    static final Class<IllegalArgumentException> ARGUMENT = IllegalArgumentException.class;
    static final Class<IllegalStateException> STATE = IllegalStateException.class;
    static final Class<java.util.NoSuchElementException> ELEMENT = java.util.NoSuchElementException.class;

    private static int checked = 0;
    private static int wrong = 0;

    private Check() { }

    interface Call {
        void run();
    }

    static void same(String what, double got, double due) {
        checked++;
        if (got != due) {
            wrong++;
            System.out.println(what + " answered " + got + ", due is " + due);
        }
    }

    static void same(String what, String got, String due) {
        checked++;
        if (!got.equals(due)) {
            wrong++;
            System.out.println(what + " answered \"" + got + "\", due is \"" + due + "\"");
        }
    }

    static void throwing(String what, Class<? extends RuntimeException> due, Call call) {
        checked++;
        String got = "nothing";
        try {
            call.run();
        } catch (RuntimeException e) {
            got = e.getClass().getName();
        }
        if (!got.equals(due.getName())) {
            wrong++;
            System.out.println(what + " threw " + got + ", due is " + due.getName());
        }
    }

    static void end() {
        System.out.println(checked + " answers looked at, " + wrong + " of them wrong");
        if (wrong != 0) {
            System.exit(1);
        }
    }

    /** Appends a text to the input buffer, 20 bytes at a time, and cuts off what fills the last 20. */
    static void give(LineOffice x, String text) {
        int length = -1;
        for (int i = 0; i < text.length(); i += 20) {
            length = x.appendInput(four(text, i), four(text, i + 4), four(text, i + 8),
                    four(text, i + 12), four(text, i + 16));
            if (length < 0) {
                throw new IllegalArgumentException("the text is too long");
            }
        }
        if (length >= 0) {
            x.truncateInput(length - (20 - text.length() % 20) % 20);
        }
    }

    private static int four(String text, int at) {
        int four = 0;
        for (int i = at; i < at + 4; i++) {
            four = four << 8 | (i < text.length() ? text.charAt(i) & 255 : ' ');
        }
        return four;
    }

    /** A loaded office; the text behind "office 1000;writer ann;writer bob;". */
    static LineOffice office(String settings) {
        LineOffice x = new LineOffice();
        give(x, "office 1000;writer ann;writer bob;" + settings);
        if (x.loadOffice() != 2) {
            throw new IllegalArgumentException("the setup is not loaded");
        }
        return x;
    }

    static int load(LineOffice x, String text) {
        x.truncateInput(0);
        give(x, text);
        return x.loadOffice();
    }

    static int submit(LineOffice x, int writer, int kind, String text) {
        x.truncateInput(0);
        give(x, text);
        return x.submit(writer, kind, text.length());
    }

    static int add(LineOffice x, String name) {
        x.truncateInput(0);
        give(x, name);
        return x.addWriter();
    }

    static int uses(LineOffice x, int writer, String word) {
        x.truncateInput(0);
        give(x, word);
        return x.uses(writer);
    }

    static String output(LineOffice x) {
        StringBuilder text = new StringBuilder();
        for (int i = 0; x.outputByte(i) >= 0; i++) {
            text.append((char) x.outputByte(i));
        }
        return text.toString();
    }

    /** Some words of three letters, no two of them the same, from a number up to 17575 on, with a text behind each. */
    static String words(int from, int count, String behind) {
        StringBuilder text = new StringBuilder();
        for (int n = from; n < from + count; n++) {
            text.append((char) ('a' + n / 676)).append((char) ('a' + n / 26 % 26)).append((char) ('a' + n % 26));
            text.append(behind);
        }
        return text.toString();
    }

    /** The states of the lines of a work, by their letters. */
    static String states(LineOffice x, int work) {
        StringBuilder text = new StringBuilder();
        for (int i = 0; i < x.work(work, 4); i++) {
            text.append("cxgl".charAt(x.line(work, i, 3)));
        }
        return text.toString();
    }

    /** The reasons of the lines of a work. */
    static String reasons(LineOffice x, int work) {
        StringBuilder text = new StringBuilder();
        for (int i = 0; i < x.work(work, 4); i++) {
            text.append(x.line(work, i, 4));
        }
        return text.toString();
    }

    /** The lines of a work, with a stroke between two. The output is another one then. */
    static String lines(LineOffice x, int work) {
        StringBuilder text = new StringBuilder();
        for (int i = 0; i < x.work(work, 4); i++) {
            x.printLine(work, i);
            text.append(i > 0 ? "|" : "").append(output(x));
        }
        return text.toString();
    }
}
