import java.util.NoSuchElementException;

/** Promises 48 to 50: named, size, trouble. */
final class NamesTest {
    private static final Check check = new Check();
    private static final int NO_SUCH = -1000;

    public static void main(String[] args) {
        named();
        namedChangesNothing();
        size();
        trouble();
        check.end();
    }

    private static int named(ForestLegs x, String tape, int n, boolean course) {
        while (x.size() > 0) {
            x.text(0);
        }
        Check.feed(x, tape);
        return Check.named(x, n, course);
    }

    private static void named() {
        ForestLegs x = Forest.fresh();
        check.due("48: ann", named(x, "ann", 3, false), Forest.ANN);
        check.due("48: with blanks behind", named(x, "ann", 20, false), Forest.ANN);
        check.due("48: with blanks ahead", named(x, "     fay      ", 10, false), Forest.FAY);
        check.due("48: of 40 bytes", named(x, Check.repeat(" ", 30) + "fay", 40, false), Forest.FAY);
        check.due("48: a course", named(x, "short", 5, true), 1);
        check.due("48: another one", named(x, "spare", 9, true), 2);
        check.due("48: the first n bytes", named(x, "longer", 4, true), 0);
        check.due("48: not a course", named(x, "ann", 3, true), NO_SUCH);
        check.due("48: not a runner", named(x, "short", 5, false), NO_SUCH);
        check.due("48: too few bytes", named(x, "ann", 2, false), NO_SUCH);
        check.due("48: too many letters", named(x, "anna", 4, false), NO_SUCH);
        check.due("48: two words", named(x, "ann bob", 7, false), NO_SUCH);
        check.due("48: a blank within", named(x, "an n", 4, false), NO_SUCH);
        check.due("48: not small", named(x, "Ann", 3, false), NO_SUCH);
        check.due("48: other signs", named(x, "ann;", 4, false), NO_SUCH);
        check.due("48: signs with like low bits", named(x, "!..", 3, false), NO_SUCH);
        check.due("48: seven letters, the last six a name", named(x, "xlonger", 7, true), NO_SUCH);
        check.due("48: a word kept", named(x, "gap", 3, false), NO_SUCH);
        check.due("48: blanks alone", named(x, "   ", 3, false), NO_SUCH);
        check.due("48: n 0", named(x, "ann", 0, false), NO_SUCH);
        check.due("48: n -1", named(x, "ann", -1, false), NO_SUCH);
        check.due("48: n 21", named(x, "ann", 21, false), NO_SUCH);
        check.due("48: n lowest", named(x, "ann", Integer.MIN_VALUE, false), NO_SUCH);
        check.due("48: n highest", named(x, "ann", Integer.MAX_VALUE, false), NO_SUCH);
        ForestLegs y = Check.told("course b 1;runner ab b 0 9;runner a b 0 9;runner abcdef b 0 9");
        check.due("48: ab", named(y, "ab", 2, false), 0);
        check.due("48: a", named(y, "ab", 1, false), 1);
        check.due("48: six letters", named(y, "abcdef", 6, false), 2);
        check.due("48: seven letters", named(y, "abcdefg", 7, false), NO_SUCH);
        check.due("48: six letters of seven", named(y, "abcdefg", 6, false), 2);
        ForestLegs z = new ForestLegs();
        Check.feed(z, "ann");
        check.due("48: no text", Check.named(z, 3, false), NO_SUCH);
        Class<?> thrown = null;
        try {
            z.named(3, true);
        } catch (RuntimeException e) {
            thrown = e.getClass();
        }
        check.due("48: just that exception", thrown == NoSuchElementException.class ? 1 : 0, 1);
    }

    private static void namedChangesNothing() {
        ForestLegs x = Forest.fresh();
        Check.feed(x, "ann");
        x.about(9);
        check.due("48: named", x.named(3, false), Forest.ANN);
        check.due("48: trouble() stays", x.trouble(), 1);
        check.due("48: the tape stays", x.size(), 20);
        x.about(0);
        check.due("48: none such", Check.named(x, 2, false), NO_SUCH);
        check.due("48: trouble() stays 0", x.trouble(), 0);
        check.due("48: the tape stays", x.size(), 20);
        check.due("48: named again", x.named(3, false), Forest.ANN);
    }

    private static void size() {
        ForestLegs x = new ForestLegs();
        x.feed(0, 0, 0, 0, 0);
        x.feed(0, 0, 0, 0, 0);
        check.due("49: size()", x.size(), 40);
        x.text(41);
        check.due("49: behind one refused by 2", x.size(), 40);
        x.text(1);
        check.due("49: behind one refused by 4", x.size(), 0);
        Check.feed(x, "course a 1");
        x.text(10);
        check.due("49: behind a sound one", x.size(), 0);
    }

    private static void trouble() {
        ForestLegs x = Forest.fresh();
        x.runner(0, 99);
        check.due("50: 1", x.trouble(), 1);
        x.trouble();
        x.size();
        x.fault();
        x.where();
        x.feed(0, 0, 0, 0, 0);
        check.due("50: it stays", x.trouble(), 1);
        x.packs(100);
        check.due("50: 2", x.trouble(), 2);
        x.pace(5, 0);
        check.due("50: 6", x.trouble(), 6);
        x.undo();
        check.due("50: 5", x.trouble(), 5);
        x.text(3);
        check.due("50: 4", x.trouble(), 4);
        x.split(2, 2, 0);
        check.due("50: an answer of -2 isn't refused", x.trouble(), 0);
    }
}
