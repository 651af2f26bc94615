import java.lang.reflect.Method;
import java.lang.reflect.Modifier;
import java.util.Arrays;
import java.util.Set;

/** Boundary cases of promises 1 to 5 and 49: THE TAPE, n, what a TEXT leaves, fault(), where(). */
final class TapeEdgesTest {
    private static final Check check = new Check();

    /** The calls of which no number of TROUBLE is told. */
    private static final Set<String> NEVER_REFUSED = Set.of("feed", "fault", "where", "named", "size", "trouble");

    /** The calls that aren't asked whether others have left something behind. */
    private static final Set<String> CHANGING = Set.of("feed", "text", "named", "add", "drop", "start", "finish", "move",
        "become", "recode", "cancel", "undo", "trouble");

    public static void main(String[] args) throws Exception {
        newObject();
        tapeUpToFull();
        fullTapeIsRead();
        fullTapeTakesNone();
        troubleStaysBehindFeed();
        tapeComesRoundAgain();
        placeOfEachByte();
        numberOfBytes();
        bytesBehindThoseOfTheText();
        textOfNoBytes();
        tapeIsEmptyThen();
        allIsGone();
        allIsGoneForEachCall();
        howManyRunners();
        faultStays();
        whereIsTold();
        whereBehindEachCall();
        lastCallPromised();
        check.end();
    }

    private static int feedBlanks(ForestLegs x) {
        return x.feed(0x20202020, 0x20202020, 0x20202020, 0x20202020, 0x20202020);
    }

    private static void fill(ForestLegs x) {
        for (int i = x.size(); i < 900; i += 20) {
            feedBlanks(x);
        }
    }

    private static void newObject() throws Exception {
        check.says("No TEXT.");
        for (Method method : ForestLegs.class.getDeclaredMethods()) {
            if (Modifier.isPublic(method.getModifiers()) && !NEVER_REFUSED.contains(method.getName())) {
                boolean text = method.getName().equals("text");
                Object[] ones = new Object[method.getParameterCount()];
                Arrays.fill(ones, 1);
                ForestLegs x = new ForestLegs();
                check.refused(method.getName(), x, (Integer) method.invoke(x, ones), text ? 2 : 1);
                check.due("fault() behind " + method.getName(), x.fault(), 0);
                check.due("size() behind " + method.getName(), x.size(), 0);
            }
        }
        check.says("`NONE = -1`: There is none; refused.");
        check.due("NONE", ForestLegs.NONE, -1);
    }

    private static void tapeUpToFull() {
        check.says("THE TAPE has 900 bytes");
        ForestLegs x = new ForestLegs();
        for (int bytes = 20; bytes <= 900; bytes += 20) {
            check.due("feed up to " + bytes, feedBlanks(x), bytes);
            check.due("size() at " + bytes, x.size(), bytes);
        }
        check.due("one more", feedBlanks(x), -1);
        check.due("and one more", feedBlanks(x), -1);
        check.due("size()", x.size(), 900);
    }

    private static void fullTapeIsRead() {
        check.says("THE TAPE has 900 bytes");
        String full = "course a " + Check.repeat(" ", 889) + "97";
        check.due("bytes of the text", full.length(), 900);
        ForestLegs x = new ForestLegs();
        check.due("feed", Check.feed(x, full), 900);
        check.due("text(899)", x.text(899), 0);
        check.due("without the last byte", x.code(0, 0), 9);
        ForestLegs y = new ForestLegs();
        Check.feed(y, full);
        check.due("text(900)", y.text(900), 0);
        check.due("with the last byte", y.code(0, 0), 97);
        ForestLegs z = new ForestLegs();
        Check.feed(z, Check.repeat(" ", 899) + "?");
        check.due("a wrong last byte", z.text(900), -1);
        check.due("fault() of it", z.fault(), 1);
        check.due("where() of it", z.where(), 899);
        ForestLegs w = new ForestLegs();
        Check.feed(w, Check.repeat(" ", 900));
        check.due("all blanks", w.text(900), -1);
        check.due("fault() of them", w.fault(), 1);
        check.due("where() of them", w.where(), 900);
    }

    private static void fullTapeTakesNone() {
        check.says("NONE, and none comes, if there would be more than 900 (trouble() stays)");
        ForestLegs x = new ForestLegs();
        Check.feed(x, "course a " + Check.repeat(" ", 889) + "97");
        check.due("feed", x.feed(0x31313131, -1, 0, 0x2C2C2C2C, 0x3B3B3B3B), -1);
        check.due("text(901)", x.text(901), -1);
        check.due("trouble()", x.trouble(), 2);
        check.due("text(900)", x.text(900), 0);
        check.due("the last bytes are as they were", x.code(0, 0), 97);
    }

    /** An object with a full tape whose latest call that may be refused had that TROUBLE. */
    private static ForestLegs troubled(int trouble) {
        ForestLegs x = Check.told("course a 1;course b 2;runner p b 0 9:1 5" + Check.repeat(",1 5", 15));
        switch (trouble) {
            case 0 -> x.about(0);
            case 1 -> x.about(7);
            case 2 -> x.packs(0);
            case 3 -> x.add(0, 1, 5);
            case 4 -> Check.tell(x, "gap 601");
            case 5 -> x.undo();
            default -> x.pace(0, 0);
        }
        fill(x);
        return x;
    }

    private static void troubleStaysBehindFeed() {
        check.says("NONE, and none comes, if there would be more than 900 (trouble() stays)");
        for (int trouble = 0; trouble <= 6; trouble++) {
            ForestLegs x = troubled(trouble);
            check.due("trouble() ahead", x.trouble(), trouble);
            check.due("where() ahead, trouble " + trouble, x.where(), trouble == 4 ? 4 : -1);
            check.due("feed", feedBlanks(x), -1);
            check.due("trouble() stays " + trouble, x.trouble(), trouble);
            check.due("where() stays at trouble " + trouble, x.where(), trouble == 4 ? 4 : -1);
            check.due("fault() stays at trouble " + trouble, x.fault(), trouble == 4 ? 2 : 0);
            check.due("size() at trouble " + trouble, x.size(), 900);
        }
    }

    private static void tapeComesRoundAgain() {
        check.says("Twenty bytes come behind THE TAPE");
        ForestLegs x = new ForestLegs();
        for (int round = 0; round < 3; round++) {
            for (int bytes = 20; bytes <= 900; bytes += 20) {
                check.due("round " + round, x.feed(0x63635F5F, round, 0, 0, 0), bytes);
            }
            check.due("one more in round " + round, feedBlanks(x), -1);
            x.text(900);
            check.due("size() behind round " + round, x.size(), 0);
        }
        check.due("an own text behind them", Check.tell(x, "course a 5"), 0);
        check.due("nothing of them is left", x.code(0, 0), 5);
    }

    private static void placeOfEachByte() {
        check.says("of each number the highest first: how many it has");
        for (int at = 0; at < 40; at++) {
            for (int sign : new int[] {0, 1, 127, 128, 254, 255}) {
                int[] ten = new int[10];
                for (int i = 0; i < 40; i++) {
                    ten[i / 4] = ten[i / 4] << 8 | (i == at ? sign : 32);
                }
                ForestLegs x = new ForestLegs();
                check.due("feed", x.feed(ten[0], ten[1], ten[2], ten[3], ten[4]), 20);
                check.due("feed", x.feed(ten[5], ten[6], ten[7], ten[8], ten[9]), 40);
                check.due("text(40)", x.text(40), -1);
                check.due("the place of byte " + sign, x.where(), at);
            }
        }
        ForestLegs y = new ForestLegs();
        y.feed(0x636F7572, 0x73652071, 0x20312C32, 0x2C332C34, 0x2C352C36);
        check.due("text(20)", y.text(20), 0);
        for (int i = 0; i < 6; i++) {
            check.due("code " + i, y.code(0, i), i + 1);
        }
    }

    private static void numberOfBytes() {
        check.says("NONE: 2 (n); 4.");
        for (int fed = 0; fed <= 900; fed += 300) {
            for (int n : new int[] {-1, fed + 1, fed + 20, 901, Integer.MIN_VALUE, Integer.MAX_VALUE}) {
                ForestLegs x = new ForestLegs();
                Check.feed(x, Check.repeat("?", fed));
                check.refused("text(" + n + ") of " + fed, x, x.text(n), 2);
                check.due("fault() behind text(" + n + ")", x.fault(), 0);
                check.due("size() behind text(" + n + ")", x.size(), fed);
            }
            ForestLegs y = new ForestLegs();
            Check.feed(y, fed == 0 ? "" : "course a 1;slack 0" + Check.repeat(" ", fed - 18));
            check.due("text(" + fed + ") of as many", y.text(fed), fed == 0 ? -1 : 0);
            check.due("trouble() behind text(" + fed + ")", y.trouble(), fed == 0 ? 4 : 0);
        }
    }

    private static void bytesBehindThoseOfTheText() {
        check.says("The first n bytes of THE TAPE (it is empty then) are THE TEXT");
        // what each number of bytes of it is: a fault and its place, or sound (0)
        String tape = "course a 1,2;gap 56";
        int[] faults = {1, 1, 1, 1, 1, 1, 1, 1, 1, 1, 0, 1, 0, 1, 1, 1, 1, 1, 0, 0, 0};
        int[] places = {0, 0, 0, 0, 0, 0, 6, 7, 8, 9, -1, 11, -1, 13, 13, 13, 16, 17, -1, -1, -1};
        for (int n = 0; n <= 20; n++) {
            ForestLegs x = new ForestLegs();
            Check.feed(x, tape);
            check.due("text(" + n + ")", x.text(n), faults[n] == 0 ? 0 : -1);
            check.due("fault() behind text(" + n + ")", x.fault(), faults[n]);
            check.due("where() behind text(" + n + ")", x.where(), places[n]);
            check.due("size() behind text(" + n + ")", x.size(), 0);
        }
    }

    private static void textOfNoBytes() {
        check.says("(the end of the text: how many bytes it has)");
        ForestLegs x = Check.told("course a 1");
        for (int fed = 0; fed < 2; fed++) {
            Check.feed(x, fed == 0 ? "" : "course b 2,3");
            check.due("text(0)", x.text(0), -1);
            check.due("trouble()", x.trouble(), 4);
            check.due("fault()", x.fault(), 1);
            check.due("where()", x.where(), 0);
            check.due("size()", x.size(), 0);
            check.due("what was told stays", x.course(0, 0), 1);
        }
    }

    private static void tapeIsEmptyThen() {
        check.says("(it is empty then)");
        ForestLegs x = new ForestLegs();
        Check.feed(x, "course a 1;runner b a 0 9;course c 2");
        check.due("text(10) of 40", x.text(10), 0);
        check.due("size()", x.size(), 0);
        check.refused("there is nothing left to read", x, x.text(1), 2);
        check.due("feed comes first again", Check.feed(x, "course d 7"), 20);
        check.due("text(10)", x.text(10), 0);
        check.due("its code", x.code(0, 0), 7);
        check.says("by 4 THE TAPE (empty then), fault()");
        Check.feed(x, "course a 1;runner b a 0 9;course c 2");
        check.due("text(9) of 40", x.text(9), -1);
        check.due("size() behind a faulty one", x.size(), 0);
        check.due("feed comes first again", Check.feed(x, "course e 8"), 20);
        check.due("text(10)", x.text(10), 0);
        check.due("its code", x.code(0, 0), 8);
    }

    private static void allIsGone() {
        check.says("all that there was is gone");
        String full = "gap 600;slack 0;course a 1,2,3,4,5,6,7,8,9,10;course b 3,1;course c 4;"
            + "runner p a 0 9:1 5,2 6;runner q b 0 9:3 1,1 2;runner s c 0 9";
        ForestLegs x = Check.told(full);
        x.add(2, 4, 5);
        x.become(0, 1);
        x.move(0, 1);
        check.due("the second text", Check.tell(x, "course b 9;runner a b 5 6"), 1);
        int[] about = {1, 1, 10, 20, 0, 0, 0};
        for (int what = 0; what <= 6; what++) {
            check.due("about(" + what + ")", x.about(what), about[what]);
        }
        check.due("course(0, 0)", x.course(0, 0), 1);
        check.refused("code(0, 1)", x, x.code(0, 1), 1);
        check.refused("course(1, 0)", x, x.course(1, 0), 1);
        check.refused("runner(1, 0)", x, x.runner(1, 0), 1);
        check.refused("punch(0, 0, 0)", x, x.punch(0, 0, 0), 1);
        check.refused("undo()", x, x.undo(), 5);
        Check.feed(x, "p");
        check.due("a name of the first", Check.named(x, 1, false), -1000);
        x.text(0);
        Check.feed(x, "a");
        check.due("a name that was another's", Check.named(x, 1, false), 0);
        check.due("no course any more", Check.named(x, 1, true), -1000);
        x.text(0);
        check.due("the first text again", Check.tell(x, full), 3);
        check.due("is as in a new object", Check.state(x), Check.state(Check.told(full)));
    }

    /** Behind a large text each call answers to a small one as if there had been no other. */
    private static void allIsGoneForEachCall() throws Exception {
        check.says("all that there was is gone");
        StringBuilder large = new StringBuilder("gap 0;slack 0;course a 1,2,3,4,5,1,2,3,4,5;course b 2,1,2;course c 1,2,3");
        for (int r = 0; r < 10; r++) {
            large.append(";runner ").append((char) ('p' + r)).append(r % 2 == 0 ? " a" : " c").append(" 0 60:1 1,2 2,3 3,4 4,5 5");
        }
        String[] small = {"course a 1,2,3;course b 3,2;runner p a 0 90:1 20,2 40,3 60;runner q a 5 95:1 21,2 50,3 61;runner s b 10 80:3 30,2 50",
            "course a 1;runner p a 7 9", "course a 5,4,3,2,1"};
        for (String text : small) {
            for (Method method : ForestLegs.class.getDeclaredMethods()) {
                if (!Modifier.isPublic(method.getModifiers()) || CHANGING.contains(method.getName())) {
                    continue;
                }
                ForestLegs x = Check.told(large.toString());
                Check.tell(x, text);
                check.due("behind a large text", Check.answers(x, method), Check.answers(Check.told(text), method));
                // a faulty text that tells as much leaves nothing either
                ForestLegs y = new ForestLegs();
                Check.tell(y, large + ";?");
                Check.tell(y, text);
                y.about(0);
                check.due("behind a large faulty text, fault()", y.fault(), 0);
                check.due("behind a large faulty text", Check.answers(y, method), Check.answers(Check.told(text), method));
            }
        }
    }

    private static void howManyRunners() {
        check.says("are THE TEXT: all that there was is gone: how many RUNNERS");
        String text = "course z 1";
        for (int runners = 0; runners <= 10; runners++) {
            ForestLegs x = new ForestLegs();
            check.answered(runners + " runners", x, Check.tell(x, text), runners);
            text = text + ";runner " + (char) ('a' + runners) + " z 0 9";
        }
    }

    private static void faultStays() {
        check.says("The FAULT of the latest text() not refused by 2; 0 without one, ahead of any.");
        ForestLegs x = new ForestLegs();
        check.due("ahead of any", x.fault(), 0);
        x.text(1);
        check.due("behind one refused by 2, ahead of any other", x.fault(), 0);
        String codes = "course a 1,2,3,4,5,6,7,8,9,10,11";
        String[] texts = {"course a 1", "?", "course a 0", "gap 1;gap 1", codes, "gap 1"};
        for (int fault = 5; fault >= 0; fault--) {
            Check.tell(x, texts[fault]);
            check.due("of that text", x.fault(), fault);
            x.text(-1);
            check.due("behind text(-1)", x.fault(), fault);
            x.text(1);
            check.due("behind text(1) of nothing", x.fault(), fault);
            x.about(0);
            x.about(-1);
            feedBlanks(x);
            Check.named(x, 1, true);
            check.due("behind other calls", x.fault(), fault);
            x.text(0);
            check.due("behind a text of no bytes", x.fault(), 1);
        }
    }

    private static void whereIsTold() {
        check.says("Its place, if the latest call that may be refused was by 4; NONE else.");
        ForestLegs x = new ForestLegs();
        check.due("ahead of any call", x.where(), -1);
        Check.tell(x, "course a 1,2,3,?");
        check.due("behind a faulty text", x.where(), 15);
        check.due("asked again", x.where(), 15);
        x.text(-1);
        check.due("behind one refused by 2", x.where(), -1);
        check.due("fault() is told still", x.fault(), 1);
        Check.tell(x, "?");
        check.due("at the first byte", x.where(), 0);
        Check.tell(x, "course a 1");
        check.due("behind a sound one", x.where(), -1);
    }

    private static void whereBehindEachCall() throws Exception {
        check.says("TROUBLE of the latest call that may be refused (those of which a number is told here)");
        for (Method method : ForestLegs.class.getDeclaredMethods()) {
            if (!Modifier.isPublic(method.getModifiers()) || method.getName().equals("text")) {
                continue;
            }
            for (int value = 0; value <= 1000; value += 1000) {
                ForestLegs x = Check.told("course zz 1,2;runner ann zz 0 9:1 5,2 6;runner bob zz 0 9");
                Check.tell(x, "gap 7;gap 8");
                Object[] values = new Object[method.getParameterCount()];
                for (int i = 0; i < values.length; i++) {
                    values[i] = method.getParameterTypes()[i] == boolean.class ? (Object) true : (Object) value;
                }
                Check.quietly(method, x, values);
                boolean stays = NEVER_REFUSED.contains(method.getName());
                check.due("where() behind " + method.getName() + " of " + value, x.where(), stays ? 6 : -1);
                check.due("fault() behind " + method.getName() + " of " + value, x.fault(), 3);
                check.due("trouble() behind " + method.getName() + " of " + value + " is 4 still", x.trouble() == 4 ? 1 : 0, stays ? 1 : 0);
            }
        }
    }

    private static void lastCallPromised() {
        check.says("An object is used for at most 512 calls after it has been made");
        ForestLegs x = new ForestLegs();
        int calls = 0;
        x.feed(0x636F7572, 0x73652061, 0x20313B72, 0x756E6E65, 0x72207020);
        x.feed(0x61203020, 0x393A3120, 0x35202020, 0x20202020, 0x20202020);
        check.due("text", x.text(40), 1);
        for (calls = 3; calls < 509; calls += 2) {
            check.due("add", x.add(0, 2, 5), 1);
            check.due("drop", x.drop(0, 1), 2);
        }
        check.due("calls", calls, 509);
        check.due("call 510", x.about(6), 10);
        check.due("call 511", x.undo(), 9);
        check.due("call 512", x.punch(0, 1, 0), 2);
    }
}
