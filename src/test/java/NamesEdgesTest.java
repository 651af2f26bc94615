import java.nio.charset.StandardCharsets;
import java.util.NoSuchElementException;

/** Boundary cases of promises 48 to 50: named, size, trouble. */
final class NamesEdgesTest {
    private static final Check check = new Check();
    private static final int NO_SUCH = -1000;
    private static final String TEXT = "course a 1;course abcdef 2;course z 3;runner b a 0 9;runner ab a 0 9;runner aab a 0 9;runner zzzzzz z 0 9";

    public static void main(String[] args) {
        numberOfBytes();
        blanksAside();
        fullTape();
        eachByteBesideIt();
        eachName();
        courseOrRunner();
        tapeStays();
        namesAfterTexts();
        exception();
        troubleStays();
        size();
        eachTrouble();
        newObject();
        check.end();
    }

    private static ForestLegs with(String tape) {
        ForestLegs x = Check.told(TEXT);
        Check.feed(x, tape);
        return x;
    }

    private static void numberOfBytes() {
        check.says("NoSuchElementException if there is none such (n can't be, too)");
        ForestLegs x = with("ab");
        int[] due = {NO_SUCH, NO_SUCH, 1};
        for (int n = 0; n <= 20; n++) {
            check.due("runner of " + n + " bytes", Check.named(x, n, false), n < 2 ? due[n] : 1);
            check.due("course of " + n + " bytes", Check.named(x, n, true), n == 1 ? 0 : NO_SUCH);
        }
        for (int n : new int[] {-1, 21, 22, 40, 900, 901, Integer.MIN_VALUE, Integer.MAX_VALUE}) {
            check.due("n " + n, Check.named(x, n, false), NO_SUCH);
            check.due("n " + n + ", course", Check.named(x, n, true), NO_SUCH);
        }
        ForestLegs none = Check.told(TEXT);
        for (int n = -1; n <= 1; n++) {
            check.due("an empty tape, n " + n, Check.named(none, n, false), NO_SUCH);
        }
    }

    private static void blanksAside() {
        check.says("whose NAME lies in the first n bytes of THE TAPE (which stays; blanks ahead of it, behind it aside)");
        for (int ahead = 0; ahead <= 30; ahead++) {
            ForestLegs x = with(Check.repeat(" ", ahead) + "aab");
            for (int n = 0; n <= x.size(); n++) {
                int letters = n - ahead;
                check.due(ahead + " blanks, runner of " + n, Check.named(x, n, false), letters >= 3 ? 2 : NO_SUCH);
                check.due(ahead + " blanks, course of " + n, Check.named(x, n, true), letters == 1 ? 0 : NO_SUCH);
            }
        }
        String[] others = {"a b", "a ab", "aa b", "a  b", "b b", "b;", ";b", "b,", "b:", "b1", "1b", "1", "B", "", "    "};
        for (String tape : others) {
            ForestLegs x = with(tape);
            check.due("'" + tape + "'", Check.named(x, tape.length(), false), NO_SUCH);
            check.due("'" + tape + "', course", Check.named(x, tape.length(), true), NO_SUCH);
        }
    }

    private static void fullTape() {
        check.says("whose NAME lies in the first n bytes of THE TAPE");
        ForestLegs x = with(Check.repeat(" ", 894) + "zzzzzz");
        check.due("899 of a full tape", Check.named(x, 899, false), NO_SUCH);
        check.due("900 of a full tape", Check.named(x, 900, false), 3);
        check.due("901 of a full tape", Check.named(x, 901, false), NO_SUCH);
        check.due("one more doesn't come", x.feed(0, 0, 0, 0, 0), -1);
        check.due("900 of it still", Check.named(x, 900, false), 3);
        ForestLegs y = with(Check.repeat("a", 900));
        check.due("letters all over", Check.named(y, 900, true), NO_SUCH);
        check.due("the first of them", Check.named(y, 1, true), 0);
        check.due("the first seven of them", Check.named(y, 7, true), NO_SUCH);
        ForestLegs z = with("ab" + Check.repeat(" ", 898));
        check.due("898 blanks behind", Check.named(z, 900, false), 1);
    }

    private static void eachByteBesideIt() {
        check.says("blanks ahead of it, behind it aside");
        for (int sign = 0; sign < 256; sign++) {
            byte[] behind = {'b', (byte) sign};
            byte[] ahead = {(byte) sign, 'b'};
            ForestLegs x = Check.told(TEXT);
            Check.feed(x, behind);
            check.due("behind: " + sign, Check.named(x, 2, false), sign == ' ' ? 0 : NO_SUCH);
            ForestLegs y = Check.told(TEXT);
            Check.feed(y, ahead);
            check.due("ahead: " + sign, Check.named(y, 2, false), sign == ' ' ? 0 : sign == 'a' ? 1 : NO_SUCH);
            ForestLegs z = Check.told(TEXT);
            Check.feed(z, new byte[] {(byte) sign});
            check.due("alone: " + sign, Check.named(z, 1, false), sign == 'b' ? 0 : NO_SUCH);
            check.due("alone, course: " + sign, Check.named(z, 1, true), sign == 'a' ? 0 : sign == 'z' ? 2 : NO_SUCH);
        }
    }

    private static void eachName() {
        check.says("The RUNNER (course: COURSE) whose NAME lies in the first n bytes of THE TAPE");
        StringBuilder all = new StringBuilder("course ca 1;course cb 1;course cc 1");
        for (int r = 0; r < 10; r++) {
            all.append(";runner r").append((char) ('a' + r)).append(" cb 0 9");
        }
        for (int r = 0; r < 10; r++) {
            ForestLegs x = Check.told(all.toString());
            Check.feed(x, "r" + (char) ('a' + r));
            check.due("runner " + r, Check.named(x, 2, false), r);
            check.due("runner " + r + " is no course", Check.named(x, 2, true), NO_SUCH);
        }
        for (int c = 0; c < 3; c++) {
            ForestLegs x = Check.told(all.toString());
            Check.feed(x, "c" + (char) ('a' + c));
            check.due("course " + c, Check.named(x, 2, true), c);
            check.due("course " + c + " is no runner", Check.named(x, 2, false), NO_SUCH);
        }
    }

    private static void courseOrRunner() {
        check.says("The RUNNER (course: COURSE)");
        ForestLegs x = with("abcdefg");
        check.due("six letters", Check.named(x, 6, true), 1);
        check.due("six letters of no runner", Check.named(x, 6, false), NO_SUCH);
        check.due("seven letters", Check.named(x, 7, true), NO_SUCH);
        check.due("five letters", Check.named(x, 5, true), NO_SUCH);
        for (char letter = 'a'; letter <= 'z'; letter++) {
            ForestLegs y = with(letter + "abcdef" + Check.repeat(" ", 13) + Check.repeat(String.valueOf(letter), 14) + "abcdef");
            check.due("a letter ahead of six: " + letter, Check.named(y, 7, true), NO_SUCH);
            check.due("many: " + letter, Check.named(y, 40, true), NO_SUCH);
            ForestLegs z = with(Check.repeat(String.valueOf(letter), 14) + "abcdef");
            check.due("many letters ahead of six: " + letter, Check.named(z, 20, true), NO_SUCH);
        }
        for (String word : new String[] {"course", "runner", "gap", "slack"}) {
            ForestLegs y = with(word);
            check.due(word, Check.named(y, word.length(), true), NO_SUCH);
            check.due(word, Check.named(y, word.length(), false), NO_SUCH);
        }
    }

    private static void tapeStays() {
        check.says("(which stays; blanks ahead of it, behind it aside)");
        ForestLegs x = with("ab;course a 1");
        check.due("the name", Check.named(x, 2, false), 1);
        check.due("none", Check.named(x, 3, false), NO_SUCH);
        check.due("size()", x.size(), 20);
        check.due("the name again", Check.named(x, 2, false), 1);
        check.due("more comes behind it", Check.feed(x, "x"), 40);
        check.due("the name again", Check.named(x, 2, false), 1);
        ForestLegs y = with("course q 1,2,3");
        check.due("no name", Check.named(y, 14, true), NO_SUCH);
        check.due("it is read then", y.text(14), 0);
        check.due("as it was", y.course(0, 0), 3);
    }

    private static void namesAfterTexts() {
        check.says("all that there was is gone");
        ForestLegs x = with("?");
        x.text(1);
        Check.feed(x, "ab");
        check.due("names stay behind a faulty text", Check.named(x, 2, false), 1);
        x.text(0);
        x.move(1, 2);
        x.drop(1, 0);
        Check.feed(x, "ab");
        check.due("names stay behind acts", Check.named(x, 2, false), 1);
        x.text(0);
        Check.tell(x, "course ab 1;runner a ab 0 9");
        Check.feed(x, "ab");
        check.due("a course now", Check.named(x, 2, true), 0);
        check.due("no runner any more", Check.named(x, 2, false), NO_SUCH);
        check.due("a runner now", Check.named(x, 1, false), 0);
        check.due("no course any more", Check.named(x, 1, true), NO_SUCH);
    }

    private static void exception() {
        check.says("NoSuchElementException if there is none such");
        ForestLegs[] objects = {new ForestLegs(), with("nobody"), with("")};
        for (ForestLegs x : objects) {
            for (int n : new int[] {-1, 0, 6, 21, Integer.MIN_VALUE, Integer.MAX_VALUE}) {
                for (boolean course : new boolean[] {false, true}) {
                    Class<?> thrown = null;
                    try {
                        x.named(n, course);
                    } catch (RuntimeException e) {
                        thrown = e.getClass();
                    }
                    check.due("just that exception, n " + n, thrown == NoSuchElementException.class ? 1 : 0, 1);
                }
            }
        }
    }

    private static void troubleStays() {
        check.says("TROUBLE of the latest call that may be refused (those of which a number is told here)");
        ForestLegs x = Check.told(TEXT);
        Check.tell(x, "gap 1;gap 2");
        Check.feed(x, "ab");
        check.due("named", Check.named(x, 2, false), 1);
        check.due("trouble() behind it", x.trouble(), 4);
        check.due("where() behind it", x.where(), 6);
        check.due("fault() behind it", x.fault(), 3);
        check.due("none", Check.named(x, -1, false), NO_SUCH);
        check.due("trouble() behind none", x.trouble(), 4);
        check.due("where() behind none", x.where(), 6);
        check.due("fault() behind none", x.fault(), 3);
    }

    private static void size() {
        check.says("Bytes of THE TAPE.");
        ForestLegs x = new ForestLegs();
        check.due("of a new object", x.size(), 0);
        for (int bytes = 20; bytes <= 920; bytes += 20) {
            Check.feed(x, "x".getBytes(StandardCharsets.ISO_8859_1));
            check.due("size()", x.size(), Math.min(900, bytes));
        }
        x.text(901);
        check.due("behind text(901)", x.size(), 900);
        x.text(0);
        check.due("behind text(0)", x.size(), 0);
    }

    private static void eachTrouble() {
        check.says("0 it wasn't; 1 there is none such (no TEXT, COURSE, RUNNER, CONTROL, POINT, LEG, PUNCH, what); 2 a number; "
            + "3 no room; 4 a FAULT; 5 not so; 6 there is none");
        ForestLegs x = Check.told("course a 1;runner p a 0 9:2 5" + Check.repeat(",2 5", 15));
        int[] due = {1, 2, 3, 4, 5, 6, 0};
        for (int i = 0; i < 14; i++) {
            int answer = call(x, due[i % 7]);
            check.due("answer", answer, due[i % 7] == 0 ? 1 : -1);
            check.due("trouble()", x.trouble(), due[i % 7]);
            check.due("trouble() again", x.trouble(), due[i % 7]);
            check.due("where()", x.where(), due[i % 7] == 4 ? 0 : -1);
        }
        check.says("0 it wasn't");
        call(x, 6);
        check.due("an answer of -2 isn't refused", x.worst(0), -2);
        check.due("trouble() of it", x.trouble(), 0);
        call(x, 6);
        check.due("an act", x.become(0, 5), 10);
        check.due("trouble() of an act", x.trouble(), 0);
        call(x, 5);
        call(x, 6);
        Check.tell(x, "course a 1");
        check.due("trouble() of a text", x.trouble(), 0);
    }

    private static int call(ForestLegs x, int trouble) {
        switch (trouble) {
            case 0:
                return x.about(0);
            case 1:
                return x.code(0, 1);
            case 2:
                return x.become(1, 601);
            case 3:
                return x.add(0, 1, 5);
            case 4:
                return x.text(0);
            case 5:
                return x.cancel(0, 0);
            default:
                return x.pace(0, 0);
        }
    }

    private static void newObject() {
        check.says("No TEXT.");
        ForestLegs x = new ForestLegs();
        check.due("trouble()", x.trouble(), 0);
        check.due("fault()", x.fault(), 0);
        check.due("where()", x.where(), -1);
        check.due("size()", x.size(), 0);
        check.due("named()", Check.named(x, 0, true), NO_SUCH);
    }
}
