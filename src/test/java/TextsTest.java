/** Promises 1 to 5: a new object, feed, text, fault, where. */
final class TextsTest {
    private static final Check check = new Check();

    public static void main(String[] args) {
        newObject();
        feed();
        text();
        faultAndWhere();
        form();
        bounds();
        names();
        room();
        noCourse();
        firstFaultCounts();
        check.end();
    }

    private static void newObject() {
        ForestLegs x = new ForestLegs();
        check.due("1: size()", x.size(), 0);
        check.due("1: trouble()", x.trouble(), 0);
        check.due("1: fault()", x.fault(), 0);
        check.due("1: where()", x.where(), -1);
        check.due("1: NONE", ForestLegs.NONE, -1);
        for (int what = -1; what <= 7; what++) {
            check.refused("1: about(" + what + ")", x, x.about(what), 1);
        }
        check.refused("1: course", x, x.course(0, 0), 1);
        check.refused("1: runner", x, x.runner(0, 0), 1);
        check.refused("1: packs", x, x.packs(1), 1);
        check.refused("1: packs of no code", x, x.packs(0), 1);
        check.refused("1: pack", x, x.pack(1, 0, 0), 1);
        check.refused("1: crowd", x, x.crowd(0), 1);
        check.refused("1: over", x, x.over(1, 2, 0), 1);
        check.refused("1: become", x, x.become(0, 5), 1);
        check.refused("1: undo", x, x.undo(), 1);
        check.due("1: named", Check.named(x, 0, true), -1000);
    }

    private static void feed() {
        ForestLegs x = new ForestLegs();
        check.due("2: feed", x.feed(0x636F7572, 0x73652061, 0x20312C32, 0x3B676170, 0x20362020), 20);
        check.due("2: text(18)", x.text(18), 0);
        check.due("2: code(0, 0)", x.code(0, 0), 1);
        check.due("2: code(0, 1)", x.code(0, 1), 2);
        check.due("2: about(2)", x.about(2), 6);
        check.refused("2: about(9)", x, x.about(9), 1);
        for (int i = 1; i <= 45; i++) {
            check.due("2: feed number " + i, x.feed(-1, 0, 0, 0, 0x20202020), 20 * i);
        }
        check.due("2: feed number 46", x.feed(0, 0, 0, 0, 0), -1);
        check.due("2: trouble() stays", x.trouble(), 1);
        check.due("2: size()", x.size(), 900);
        check.due("2: text(1) of byte 255", x.text(1), -1);
        check.due("2: place 0", x.where(), 0);
        check.due("2: where() stays behind feed", x.feed(0, 0, 0, 0, 0) * 100 + x.where(), 2000);
    }

    private static void text() {
        ForestLegs x = new ForestLegs();
        check.refused("3: text(1) of nothing", x, x.text(1), 2);
        check.refused("3: text(-1)", x, x.text(-1), 2);
        Check.feed(x, "course a 1,2;runner b a 0 9");
        check.refused("3: text(41)", x, x.text(41), 2);
        check.refused("3: text(highest)", x, x.text(Integer.MAX_VALUE), 2);
        check.due("3: the tape stays", x.size(), 40);
        check.answered("3: text(12)", x, x.text(12), 0);
        check.due("3: the tape is empty", x.size(), 0);
        check.due("3: courses", x.about(0), 1);
        check.due("3: no runner told", x.about(1), 0);
        check.answered("3: a second text", x, Check.tell(x, "course d 5;runner e d 0 5;runner f d 0 5"), 2);
        check.due("3: courses of it", x.about(0), 1);
        check.due("3: its code", x.code(0, 0), 5);
        check.due("3: gap untold", x.about(2), 10);
        check.due("3: slack untold", x.about(3), 20);
        x.add(0, 5, 3);
        x.become(0, 77);
        String was = Check.state(x);
        check.due("3: a faulty text", Check.tell(x, "course g 6,7;gap 9;oh"), -1);
        check.due("3: trouble 4", x.trouble(), 4);
        check.due("3: tape empty", x.size(), 0);
        check.due("3: what was told stays", Check.state(x), was);
        check.due("3: undo still can", x.undo(), 1);
        check.answered("3: the next text leaves nothing", x, Check.tell(x, "course g 6,7"), 0);
        check.due("3: no act can be undone", x.about(6), 0);
        check.due("3: gap is as untold again", x.about(2), 10);
        check.refused("3: undo", x, x.undo(), 5);
        cut("course a 123", 11, 0, -1, 12);
        cut("course a 1;gap 12345", 18, 0, -1, 1);
        cut("course abcdef 1", 9, 1, 9, -1);
        cut("course abcdefg 1", 13, 1, 13, -1);
        cut("courses", 6, 1, 6, -1);
        String full = "course a 1" + Check.repeat(" ", 880) + ",2,3,4,5,6";
        check.due("3: a text of 900 bytes", full.length(), 900);
        check.sound(full, 0);
    }

    /** What lies behind the first n bytes doesn't count, though it stands together with them. */
    private static void cut(String tape, int n, int fault, int place, int code) {
        ForestLegs x = new ForestLegs();
        Check.feed(x, tape);
        x.text(n);
        check.due("3: fault() of " + n + " bytes of '" + tape + "'", x.fault(), fault);
        check.due("3: where() of " + n + " bytes of '" + tape + "'", x.where(), place);
        check.due("3: code(0, 0) of " + n + " bytes of '" + tape + "'", x.code(0, 0), code);
    }

    private static void faultAndWhere() {
        ForestLegs x = new ForestLegs();
        Check.tell(x, "course a 100");
        check.due("4: fault()", x.fault(), 2);
        check.due("5: where()", x.where(), 9);
        x.fault();
        x.size();
        x.trouble();
        Check.named(x, 0, true);
        check.due("5: where() stays", x.where(), 9);
        x.text(1);
        check.due("4: fault() behind one refused by 2", x.fault(), 2);
        check.due("5: where() behind one refused by 2", x.where(), -1);
        check.due("50: trouble()", x.trouble(), 2);
        Check.tell(x, "course a 10");
        check.due("4: fault() of a sound one", x.fault(), 0);
        check.due("5: where() of a sound one", x.where(), -1);
        Check.tell(x, "slack 1");
        check.due("4: fault()", x.fault(), 5);
        check.due("5: where()", x.where(), 7);
        x.about(0);
        check.due("5: where() behind a call that wasn't refused", x.where(), -1);
        check.due("4: fault() behind it", x.fault(), 5);
    }

    private static void form() {
        check.faulty("", 1, 0);
        check.faulty("    ", 1, 4);
        check.faulty("course", 1, 6);
        check.faulty("course a", 1, 8);
        check.faulty("course a  ", 1, 10);
        check.faulty("course a 1,", 1, 11);
        check.faulty("course a 1;", 1, 11);
        check.faulty("course a 1;;", 1, 11);
        check.faulty(";course a 1", 1, 0);
        check.faulty("5", 1, 0);
        check.faulty("a", 1, 0);
        check.faulty("course a 1 2", 1, 11);
        check.faulty("course a 1,,2", 1, 11);
        check.faulty("course a 1:2", 1, 10);
        check.faulty("course 5", 1, 7);
        check.faulty("course a b", 1, 9);
        check.faulty("course a 1 course b 2", 1, 11);
        check.faulty("course course 1", 1, 7);
        check.faulty("course runner 1", 1, 7);
        check.faulty("course gap 1", 1, 7);
        check.faulty("course slack 1", 1, 7);
        check.faulty("course a 1;runner slack a 0 9", 1, 18);
        check.faulty("course a 1;runner b gap 0 9", 1, 20);
        check.faulty("course a 1;runner b 5", 1, 20);
        check.faulty("course a 1;runner b a", 1, 21);
        check.faulty("course a 1;runner b a 0", 1, 23);
        check.faulty("course a 1;runner b a 0,9", 1, 23);
        check.faulty("course a 1;runner b a 0 9 5", 1, 26);
        check.faulty("course a 1;runner b a 0 9,1 5", 1, 25);
        check.faulty("course a 1;runner b a 0 9:", 1, 26);
        check.faulty("course a 1;runner b a 0 9:1", 1, 27);
        check.faulty("course a 1;runner b a 0 9:1,5", 1, 27);
        check.faulty("course a 1;runner b a 0 9:1 5,", 1, 30);
        check.faulty("course a 1;runner b a 0 9:1 5:2 6", 1, 29);
        check.faulty("course a 1;runner b a 0 9:1 5 2 6", 1, 30);
        check.faulty("gap", 1, 3);
        check.faulty("gap a", 1, 4);
        check.faulty("gap 5,", 1, 5);
        check.faulty("slack 5 5", 1, 8);
        check.faulty("Course a 1", 1, 0);
        check.faulty("course A 1", 1, 7);
        check.faulty("course a 1.", 1, 10);
        check.faulty("course a\t1", 1, 8);
        check.faulty("course a \u00ff", 1, 9);
        check.faulty("course a \0", 1, 9);
        check.faulty("course a -1", 1, 9);
        check.faulty("course abcdefg 1", 1, 7);
        check.faulty("coursea 1", 1, 0);
        check.faulty("course a 00001", 1, 9);
        check.faulty("course a 1, 12345", 1, 12);
        check.faulty("course a 1;runner b a 0 10000", 1, 24);
        check.sound("course abcdef 1", 0);
        check.sound("  course  a  0001 , 02  ;  runner b a 0000 0009  ", 1);
        check.sound("course a1,2;runner b a0 9:1 5,2 6;gap0", 1);
        check.sound("gap 5;course a 1;slack 6", 0);
    }

    private static void bounds() {
        check.faulty("course a 0", 2, 9);
        check.faulty("course a 100", 2, 9);
        check.faulty("course a 1,2,0", 2, 13);
        check.faulty("course a 7,7", 2, 11);
        check.faulty("course a 1,2,3,03", 2, 15);
        check.sound("course a 1,99,1,99", 0);
        check.faulty("course a 1;runner b a 9999 9999", 2, 22);
        check.faulty("course a 1;runner b a 5 5", 2, 24);
        check.faulty("course a 1;runner b a 5 4", 2, 24);
        check.sound("course a 1;runner b a 9998 9999", 1);
        check.sound("course a 1;runner b a 0 1", 1);
        check.faulty("course a 1;runner b a 5 9:0 6", 2, 26);
        check.faulty("course a 1;runner b a 5 9:100 6", 2, 26);
        check.faulty("course a 1;runner b a 5 9:1 4", 2, 28);
        check.faulty("course a 1;runner b a 5 9:1 10", 2, 28);
        check.faulty("course a 1;runner b a 5 9:1 7,1 6", 2, 32);
        check.sound("course a 1;runner b a 5 9:1 5,1 5,99 9,1 9", 1);
        check.faulty("course a 1;gap 601", 2, 15);
        check.faulty("course a 1;slack 601", 2, 17);
        check.sound("course a 1;gap 600;slack 600", 0);
        check.sound("course a 1;gap 0;slack 0", 0);
    }

    private static void names() {
        check.faulty("course a 1;course a 2", 3, 18);
        check.faulty("course a 1;runner a a 0 9", 3, 18);
        check.faulty("course a 1;runner b a 0 9;runner b a 0 9", 3, 33);
        check.faulty("course a 1;runner b a 0 9;course b 1", 3, 33);
        check.faulty("course a 1;runner b c 0 9", 3, 20);
        check.faulty("course a 1;runner b b 0 9", 3, 20);
        check.faulty("runner b a 0 9;course a 1", 3, 9);
        check.faulty("course a 1;runner b a 0 9;runner c b 0 9", 3, 35);
        check.faulty("gap 1;course a 1;gap 2", 3, 17);
        check.faulty("slack 1;course a 1;slack 601", 3, 19);
        check.sound("course a 1;course aa 1;runner aaa aa 0 9;runner b a 0 9;runner az a 0 9;runner ba a 0 9", 4);
    }

    private static void room() {
        String three = "course a 1;course b 1;course c 1";
        check.sound(three, 0);
        check.faulty(three + ";course d 1", 4, 33);
        check.faulty(three + ";course a 1", 4, 33);
        String ten = "course x 1";
        for (int r = 0; r < 10; r++) {
            ten = ten + ";runner " + (char) ('a' + r) + " x 0 9";
        }
        check.sound(ten, 10);
        check.faulty(ten + ";runner k x 0 9", 4, ten.length() + 1);
        check.sound(ten + ";course k 5", 10);
        String codes = "course a 1,2,3,4,5,6,7,8,9,10";
        check.sound(codes, 0);
        check.faulty(codes + ",11", 4, 30);
        check.faulty(codes + ",10", 2, 30);
        check.faulty(codes + ",100", 2, 30);
        check.faulty(codes + ",a", 1, 30);
        String punches = "course a 1;runner b a 0 9:1 5" + Check.repeat(",1 5", 15);
        check.sound(punches, 1);
        check.faulty(punches + ",1 5", 4, punches.length() + 1);
        check.faulty(punches + ",0 5", 2, punches.length() + 1);
        check.faulty(punches + ",a 5", 1, punches.length() + 1);
    }

    private static void noCourse() {
        check.faulty("gap 5", 5, 5);
        check.faulty("gap 5;slack 6   ", 5, 16);
    }

    private static void firstFaultCounts() {
        check.faulty("course a 0;?", 2, 9);
        check.faulty("gap 5;?", 1, 6);
        check.faulty("gap 5;gap 601", 3, 6);
        check.faulty("course a 1,1,0,a", 2, 11);
    }
}
