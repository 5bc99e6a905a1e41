import java.lang.reflect.InvocationTargetException;
import java.lang.reflect.Method;
import java.nio.charset.StandardCharsets;
import java.util.Arrays;
import java.util.Comparator;

/**
 * What the tests of the edges share. A test is a method without arguments whose name begins with promise and the two
 * digits of its promise; the comment above it is the document's sentence.
 */
abstract class Edges {
    static final int NO = -1000000000;
    static final int NONE = SinkingChoir.NONE;
    static final int LEAST = Integer.MIN_VALUE;
    static final int MOST = Integer.MAX_VALUE;
    static final int FIFTH = 701955;
    private static int wrong = 0;
    private static String test = "";

    static void due(String call, long got, long want) {
        if (got != want) {
            wrong++;
            System.out.println(test + ": " + call + " answered " + got + ", due is " + want);
        }
    }

    static void due(String call, String got, String want) {
        if (!got.equals(want)) {
            wrong++;
            System.out.println(test + ": " + call + " answered " + got + ", due is " + want);
        }
    }

    static void yes(String call, boolean got) {
        due(call, got ? 1 : 0, 1);
    }

    static void no(String call, boolean got) {
        due(call, got ? 1 : 0, 0);
    }

    /** Notes of a voice from BEAT 0 on, such as "24:3/2 - 26:9/8": a KEY and a FRACTION, or - where it is silent. */
    static void put(SinkingChoir x, int voice, String notes) {
        String[] each = notes.split(" +");
        for (int b = 0; b < each.length; b++) {
            if (!each[b].equals("-")) {
                String[] parts = each[b].split("[:/]");
                yes("note " + each[b], x.note(voice, b, Integer.parseInt(parts[0]), Integer.parseInt(parts[1]),
                    Integer.parseInt(parts[2])));
            }
        }
    }

    /** Puts bytes on the tape, with blanks behind them up to twenty; the tape must have room. */
    static void feed(SinkingChoir x, byte[] bytes) {
        for (int from = 0; from < bytes.length; from += 20) {
            int[] five = new int[5];
            for (int k = 0; k < 20; k++) {
                int b = from + k < bytes.length ? bytes[from + k] & 255 : ' ';
                five[k / 4] |= b << 24 - 8 * (k % 4);
            }
            x.feed(five[0], five[1], five[2], five[3], five[4]);
        }
    }

    static void feed(SinkingChoir x, String text) {
        feed(x, text.getBytes(StandardCharsets.ISO_8859_1));
    }

    /** Empties the tape, feeds this and reads it as a text. */
    static int tell(SinkingChoir x, String text) {
        x.check(0);
        feed(x, text);
        return x.text(text.length());
    }

    /** Empties the tape and checks these numbers. */
    static int check(SinkingChoir x, int... numbers) {
        x.check(0);
        int[] whole = Arrays.copyOf(numbers, (numbers.length + 4) / 5 * 5);
        for (int k = 0; k < whole.length; k += 5) {
            x.feed(whole[k], whole[k + 1], whole[k + 2], whole[k + 3], whole[k + 4]);
        }
        return x.check(numbers.length / 3);
    }

    /** One singer with one note of KEY 0 in BEAT 0: the pitch is d. */
    static SinkingChoir lone() {
        SinkingChoir x = new SinkingChoir();
        x.note(0, 0, 0, 1, 1);
        x.singer(0, 0, 7, 0);
        return x;
    }

    /** So many singers at places 0, 1, 2 .. of one voice that has KEY 0 and 1/1 in so many beats. */
    static SinkingChoir unison(int singers, int beats) {
        SinkingChoir x = new SinkingChoir();
        for (int b = 0; b < beats; b++) {
            x.note(0, b, 0, 1, 1);
        }
        for (int i = 0; i < singers; i++) {
            x.singer(0, i, 1, 0);
        }
        return x;
    }

    /** The d that a lone singer comes to; 1000000 if the text is not right. */
    static int d(String value) {
        SinkingChoir x = lone();
        return tell(x, "d" + value + "(1=1)") == 1 ? x.pitch(0, 0) : 1000000;
    }

    static boolean holds(String when) {
        SinkingChoir x = lone();
        return tell(x, "d7(" + when + ")") == 1 && x.pitch(0, 0) == 7;
    }

    /** All tests of a class by their names; each promise from the first to the last must have one. */
    static void runAll(Class<?> tests, int first, int last) {
        Method[] all = Arrays.stream(tests.getDeclaredMethods()).filter(m -> m.getName().matches("promise\\d\\d\\w+"))
            .sorted(Comparator.comparing(Method::getName)).toArray(Method[]::new);
        for (Method m : all) {
            test = m.getName();
            try {
                m.setAccessible(true);
                m.invoke(null);
            } catch (InvocationTargetException | IllegalAccessException e) {
                wrong++;
                System.out.println(test + " ended with " + e.getCause());
            }
        }
        for (int p = first; p <= last; p++) {
            String name = (p < 10 ? "promise0" : "promise") + p;
            if (Arrays.stream(all).noneMatch(m -> m.getName().startsWith(name))) {
                wrong++;
                System.out.println("no test of " + name);
            }
        }
        System.out.println(wrong == 0 ? all.length + " tests of edges hold" : wrong + " answers are not as due");
        if (wrong != 0) {
            System.exit(1);
        }
    }
}
