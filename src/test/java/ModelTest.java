import java.lang.reflect.InvocationTargetException;
import java.lang.reflect.Method;
import java.lang.reflect.Modifier;
import java.util.Arrays;
import java.util.ArrayList;
import java.util.HashMap;
import java.util.List;
import java.util.Map;
import java.util.Random;

/** Plays the same runs of calls on LineOffice and on the model; every answer has to be the same. */
public final class ModelTest {
    private static final int RUNS = 1500;
    private static final int FULL_RUNS = 60;
    /** How many words the works of a full run are drawn from: somewhat more than 12 works can hold. */
    private static final int FULL_WORDS = 800;
    private static final int CALLS = 512;
    private static final String[] NAMES = {"a", "b", "cid", "abcdef", "fee", "abcdefg", "A", "", "office", "worn"};
    private static final int[] ODD = {Integer.MIN_VALUE, Integer.MAX_VALUE, -1, 0, 1, 2, 3, 5, 6, 7, 8, 9, 10, 11, 12,
        30, 31, 59, 60, 99, 100, 500, 501, 600, 999, 1000, 9999, 10000, 0x61626364};

    private final LineOffice office = new LineOffice();
    private final Model model = new Model();
    private final Map<String, Method> faces = new HashMap<>();
    private final List<Method> drawn = new ArrayList<>();
    private final StringBuilder told = new StringBuilder();
    private final Random random;
    /** How wordy a run is: small numbers make many lines that are caught. */
    private final int vocabulary;
    private int calls = 0;

    private ModelTest(long seed) {
        random = new Random(seed);
        vocabulary = 2 + random.nextInt(12);
        for (Method m : LineOffice.class.getDeclaredMethods()) {
            if (Modifier.isPublic(m.getModifiers())) {
                faces.put(m.getName(), m);
                drawn.add(m);
            }
        }
        // the order in which reflection tells them is free, and runs must be the same each time
        drawn.sort((a, b) -> a.getName().compareTo(b.getName()));
    }

    private static String answer(Object on, Method method, Object[] given) throws Exception {
        try {
            return String.valueOf(method.invoke(on, given));
        } catch (InvocationTargetException e) {
            return "throws " + e.getCause().getClass().getName();
        }
    }

    private String call(String name, Object... given) throws Exception {
        Method face = faces.get(name);
        String due = answer(model, Model.class.getMethod(name, face.getParameterTypes()), given);
        String got = answer(office, face, given);
        calls++;
        told.append(name).append(Arrays.toString(given)).append(" -> ").append(got).append('\n');
        if (!got.equals(due)) {
            throw new IllegalStateException("due is " + due);
        }
        return got;
    }

    private void give(String text) throws Exception {
        call("truncateInput", 0);
        for (int i = 0; i < text.length(); i += 20) {
            Object[] fours = new Object[5];
            for (int j = 0; j < 5; j++) {
                int four = 0;
                for (int k = i + 4 * j; k < i + 4 * j + 4; k++) {
                    four = four << 8 | (k < text.length() ? text.charAt(k) : ' ');
                }
                fours[j] = four;
            }
            call("appendInput", fours);
        }
        call("truncateInput", text.length());
    }

    private String word() {
        int n = random.nextInt(vocabulary);
        int length = random.nextInt(40) == 0 ? 11 + random.nextInt(3) : 1 + n % 5;
        StringBuilder word = new StringBuilder();
        for (int i = 0; i < length; i++) {
            word.append((char) ('a' + (n + i) % 26));
        }
        return word.toString();
    }

    private String script(int kind) {
        int words = random.nextInt(30) == 0 ? 55 + random.nextInt(8) : random.nextInt(14);
        StringBuilder text = new StringBuilder();
        for (int i = 0; i < words; i++) {
            text.append(word());
            text.append(kind == 1 && random.nextInt(3) == 0 ? "/" : random.nextInt(6) == 0 ? "\n" : " ");
            if (random.nextInt(20) == 0) {
                text.append(random.nextInt(3) == 0 ? "/" : "  ");
            }
        }
        if (random.nextInt(60) == 0) {
            text.append((char) random.nextInt(256));
        }
        return text.length() > 500 ? text.substring(0, 500) : text.toString();
    }

    private String setup() {
        StringBuilder text = new StringBuilder("office ").append(random.nextInt(3000)).append(";");
        int statements = random.nextInt(12);
        for (int i = 0; i < statements; i++) {
            if (random.nextInt(2) == 0 || i == 0 && random.nextInt(9) > 0) {
                text.append("writer ").append(random.nextInt(4) == 0 ? NAMES[random.nextInt(NAMES.length)]
                        : "" + (char) ('a' + random.nextInt(20)));
            } else {
                int what = random.nextInt(10);
                int span = Math.min(12, Model.HIGH[what] - Model.LOW[what] + 1);
                text.append(Model.WORDS[what]).append(random.nextInt(9) == 0 ? "\n" : " ");
                text.append(random.nextInt(8) == 0 ? random.nextInt(110) : Model.LOW[what] + random.nextInt(span));
            }
            text.append(random.nextInt(9) == 0 ? " ; " : ";");
        }
        while (random.nextInt(5) == 0) {
            int at = random.nextInt(text.length());
            switch (random.nextInt(3)) {
                case 0: text.deleteCharAt(at); break;
                case 1: text.setCharAt(at, ";9a \n/A".charAt(random.nextInt(7))); break;
                default: text.insert(at, "; office writer 123456 fee 1".substring(random.nextInt(20))); break;
            }
        }
        return text.toString();
    }

    private void loadSome() throws Exception {
        give(setup());
        call("loadOffice");
        call("errorCode");
        call("errorOffset");
    }

    private int argument() {
        int sort = random.nextInt(20);
        if (sort == 0) {
            return random.nextInt();
        }
        return sort < 3 ? ODD[random.nextInt(ODD.length)] : random.nextInt(random.nextInt(3) == 0 ? 13 : 5);
    }

    private void randomCall() throws Exception {
        Method method = drawn.get(random.nextInt(drawn.size()));
        Object[] given = new Object[method.getParameterCount()];
        for (int i = 0; i < given.length; i++) {
            given[i] = argument();
        }
        boolean isMeasured = method.getName().equals("linesIf") || method.getName().equals("payIf");
        if (isMeasured && random.nextInt(4) > 0) {
            given[1] = 6 + random.nextInt(25);
        }
        // loading and restoring end what the run has built, so that they are rarer
        boolean ends = method.getName().equals("loadOffice") || method.getName().equals("restoreState");
        if (!ends || random.nextInt(6) == 0) {
            call(method.getName(), given);
        }
    }

    private void step() throws Exception {
        int sort = random.nextInt(16);
        int writer = random.nextInt(3);
        if (sort < 3) {
            int kind = random.nextInt(3);
            String text = script(kind);
            give(text);
            String name = new String[] {"submit", "submit", "wouldCount", "wouldPay"}[random.nextInt(4)];
            call(name, writer, kind, Math.max(0, text.length() - (random.nextInt(8) == 0 ? 1 : 0)));
        } else if (sort == 3) {
            give(random.nextInt(3) == 0 ? NAMES[random.nextInt(NAMES.length)] : word());
            if (random.nextInt(3) == 0) {
                call("addWriter");
            } else {
                call("uses", writer);
            }
        } else if (sort == 4) {
            int what = random.nextInt(10);
            call("set", what, Model.LOW[what] + random.nextInt(Math.min(9, Model.HIGH[what] - Model.LOW[what] + 1)));
        } else if (sort == 5) {
            call("appeal", random.nextInt(12), random.nextInt(6));
        } else if (sort == 6) {
            int what = random.nextInt(10);
            call("countsIf", random.nextInt(6), what, Model.LOW[what]
                    + random.nextInt(Math.min(14, Model.HIGH[what] - Model.LOW[what] + 1)));
        } else if (sort == 7) {
            someChange(writer);
        } else {
            randomCall();
        }
    }

    private static String numbered(int n) {
        return "" + (char) ('a' + n / 676) + (char) ('a' + n / 26 % 26) + (char) ('a' + n % 26);
    }

    /** Sixty words or somewhat fewer, most of them from a number on, and lines of one word or two. */
    private String longScript(int kind, int from, int strange) {
        StringBuilder text = new StringBuilder();
        int words = random.nextInt(3) == 0 ? 50 + random.nextInt(11) : 60;
        for (int i = 0; i < words; i++) {
            int n = random.nextInt(100) < strange ? random.nextInt(FULL_WORDS) : from + i;
            n = random.nextInt(100) < strange ? from + random.nextInt(1 + i) : n;
            text.append(numbered(n)).append(kind == 1 && random.nextInt(100) >= strange ? "/" : " ");
        }
        return text.toString();
    }

    /** A shelf of long works, almost all of their lines counting, and what is told of a further one. */
    private void fullRun() throws Exception {
        int strange = random.nextInt(3) == 0 ? 0 : random.nextInt(30);
        call("set", 2, 1 + random.nextInt(3));
        for (int i = 0; i < 12; i++) {
            int kind = 1 + random.nextInt(2);
            String text = longScript(kind, 60 * i, random.nextInt(2) * strange);
            give(text);
            call("submit", 0, kind, text.length());
        }
        call("count", 3);
        while (calls < CALLS - 60) {
            int kind = random.nextInt(3);
            String text = longScript(kind, 720, random.nextInt(50));
            give(text);
            call("wouldCount", 0, kind, text.length());
            call("wouldPay", 0, kind, text.length());
            call("set", 1 + random.nextInt(2), 2 + random.nextInt(2));
            call("countsIf", 11, random.nextInt(3), 6);
            call("appeal", random.nextInt(12), random.nextInt(60));
            call("favourite", 0);
            call("writer", 0, 8 + random.nextInt(2));
        }
        while (calls < CALLS - 40) {
            step();
        }
    }

    private void someChange(int writer) throws Exception {
        switch (random.nextInt(6)) {
            case 0: call("pass", 1 + random.nextInt(random.nextInt(4) == 0 ? 99 : 3)); break;
            case 1: call("endow", 1 + random.nextInt(random.nextInt(4) == 0 ? 9999 : 99)); break;
            case 2: call("advance", writer, 1 + random.nextInt(60)); break;
            case 3: call("payOut", writer); break;
            case 4: call("saveState"); break;
            default: call("undo"); break;
        }
    }

    private void mixedRun(int loads) throws Exception {
        for (int i = 0; i < loads; i++) {
            loadSome();
        }
        while (calls < CALLS - 40) {
            step();
        }
    }

    public static void main(String[] args) throws Exception {
        for (int run = 0; run < RUNS + FULL_RUNS; run++) {
            ModelTest test = new ModelTest(run);
            try {
                if (run < RUNS) {
                    test.mixedRun(run % 4);
                } else {
                    test.fullRun();
                }
            } catch (IllegalStateException e) {
                System.out.println("run " + run + ":\n" + test.told + e.getMessage());
                System.exit(1);
            }
        }
        System.out.println((RUNS + FULL_RUNS) + " runs answered as the model does");
    }
}
