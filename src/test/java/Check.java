import java.io.IOException;
import java.lang.reflect.InvocationTargetException;
import java.lang.reflect.Method;
import java.nio.charset.StandardCharsets;
import java.nio.file.Files;
import java.nio.file.Path;
import java.util.Arrays;
import java.util.NoSuchElementException;

/** Counts what isn't as due; the same for all tests of the project. */
final class Check {
    private static final Path DOCUMENT = Path.of("../shared/DOC.md");

    private int asked = 0;
    private int wrong = 0;
    private String sentence = "";

    /** What follows looks at these words of the document; told, but no failure, is that they don't stand there any more. */
    void says(String words) {
        sentence = "\"" + words + "\": ";
        String document = plain(document());
        if (!document.isEmpty() && !document.contains(plain(words))) {
            System.out.println("the document says no more " + sentence + "read it anew");
        }
    }

    private static String plain(String words) {
        return words.replaceAll("[`\\s]+", " ");
    }

    private static String document() {
        try {
            return Files.isReadable(DOCUMENT) ? Files.readString(DOCUMENT) : "";
        } catch (IOException e) {
            return "";
        }
    }

    void due(String what, long got, long want) {
        due(what, Long.toString(got), Long.toString(want));
    }

    void due(String what, String got, String want) {
        asked++;
        if (!got.equals(want)) {
            wrong++;
            System.out.println(sentence + what + " answered " + got + ", due is " + want);
        }
    }

    /** The call answered NONE with that TROUBLE, and no place is told. */
    void refused(String what, ForestLegs x, int got, int trouble) {
        due(what, got, ForestLegs.NONE);
        due(what + ": trouble()", x.trouble(), trouble);
        due(what + ": where()", x.where(), ForestLegs.NONE);
    }

    /** The call wasn't refused; behind it another one is, so that the next answer has to clear that. */
    void answered(String what, ForestLegs x, int got, int want) {
        due(what, got, want);
        due(what + ": trouble()", x.trouble(), 0);
        due(what + ": where()", x.where(), ForestLegs.NONE);
        due("about(99) behind " + what, x.about(99), ForestLegs.NONE);
    }

    /** The TEXT has that FAULT at that place. */
    void faulty(String text, int fault, int place) {
        ForestLegs x = new ForestLegs();
        due("text of '" + text + "'", tell(x, text), ForestLegs.NONE);
        due("fault() of '" + text + "'", x.fault(), fault);
        due("where() of '" + text + "'", x.where(), place);
        due("trouble() of '" + text + "'", x.trouble(), 4);
        due("size() behind '" + text + "'", x.size(), 0);
    }

    void sound(String text, int runners) {
        ForestLegs x = new ForestLegs();
        answered("text of '" + text + "'", x, tell(x, text), runners);
        due("fault() of '" + text + "'", x.fault(), 0);
    }

    /** named() where there is one; -1000 where it throws. */
    static int named(ForestLegs x, int n, boolean course) {
        try {
            return x.named(n, course);
        } catch (NoSuchElementException e) {
            return -1000;
        }
    }

    /** Calls without looking at the answer, also where named() throws. */
    static void quietly(Method method, ForestLegs x, Object[] values) throws IllegalAccessException {
        try {
            method.invoke(x, values);
        } catch (InvocationTargetException e) {
            if (!(e.getCause() instanceof NoSuchElementException)) {
                throw new IllegalStateException(method + " threw", e.getCause());
            }
        }
    }

    /** Feeds a text, filled up with blanks to twenties. */
    static int feed(ForestLegs x, String text) {
        return feed(x, text.getBytes(StandardCharsets.ISO_8859_1));
    }

    static int feed(ForestLegs x, byte[] text) {
        int answer = x.size();
        for (int from = 0; from < text.length; from += 20) {
            int[] five = new int[5];
            for (int i = 0; i < 20; i++) {
                int one = from + i < text.length ? text[from + i] & 255 : 32;
                five[i / 4] = five[i / 4] << 8 | one;
            }
            answer = x.feed(five[0], five[1], five[2], five[3], five[4]);
        }
        return answer;
    }

    static int tell(ForestLegs x, String text) {
        feed(x, text);
        return x.text(text.length());
    }

    static ForestLegs told(String text) {
        ForestLegs x = new ForestLegs();
        if (tell(x, text) == ForestLegs.NONE) {
            throw new IllegalStateException("a test's text has fault " + x.fault() + " at " + x.where() + ": " + text);
        }
        return x;
    }

    /** All that is told of courses and runners, to see whether anything has changed. */
    static String state(ForestLegs x) {
        StringBuilder all = new StringBuilder();
        for (int what = 0; what <= 6; what++) {
            all.append(x.about(what)).append(' ');
        }
        for (int c = 0; c < x.about(0); c++) {
            all.append("/ ");
            for (int what = 0; what <= 4; what++) {
                all.append(x.course(c, what)).append(' ');
            }
            for (int i = 0; i < x.course(c, 0); i++) {
                all.append(x.code(c, i)).append(' ');
            }
        }
        for (int r = 0; r < x.about(1); r++) {
            all.append("/ ");
            for (int what = 0; what <= 9; what++) {
                all.append(x.runner(r, what)).append(' ');
            }
            for (int k = 0; k < x.runner(r, 4); k++) {
                all.append(x.punch(r, k, 0)).append(',').append(x.punch(r, k, 1)).append(',')
                    .append(x.punch(r, k, 2)).append(' ');
            }
        }
        return all.toString();
    }

    /** What a call that changes nothing answers to all numbers from -1 to 5, in all its places. */
    static String answers(ForestLegs x, Method method) throws ReflectiveOperationException {
        int places = method.getParameterCount();
        StringBuilder all = new StringBuilder(method.getName());
        Object[] values = new Object[places];
        for (int round = 0; round < Math.round(Math.pow(7, places)); round++) {
            int rest = round;
            for (int i = 0; i < places; i++) {
                values[i] = rest % 7 - 1;
                rest /= 7;
            }
            all.append(' ').append(method.invoke(x, values));
        }
        return all.toString();
    }

    static String repeat(String what, int times) {
        String[] row = new String[times];
        Arrays.fill(row, what);
        return String.join("", row);
    }

    void end() {
        System.out.println(wrong == 0 ? asked + " answers are as due" : wrong + " of " + asked + " answers are not as due");
        if (wrong != 0) {
            System.exit(1);
        }
    }
}
