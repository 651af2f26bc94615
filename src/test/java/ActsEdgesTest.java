import java.lang.reflect.Method;
import java.lang.reflect.Modifier;
import java.util.Set;

/** Boundary cases of promises 39 to 47 and of Terms III: acts, those that are kept, those that are not any more. */
final class ActsEdgesTest {
    private static final Check check = new Check();
    private static final Set<String> OTHERS = Set.of("feed", "text", "named", "undo", "trouble", "size", "fault", "where");
    private static final Set<String> ACTS = Set.of("add", "drop", "start", "finish", "move", "become", "recode", "cancel");

    public static void main(String[] args) throws Exception {
        placeOfAdd();
        numbersOfAdd();
        roomOfAdd();
        drop();
        start();
        finish();
        move();
        become();
        recode();
        cancel();
        callsThatSaySo();
        latestTen();
        refusedOnesDontCount();
        keptOnesComeRound();
        textLeavesNone();
        undoOfEachKind();
        undoForEachCall();
        undoBringsBackPlaces();
        answersFollow();
        check.end();
    }

    private static String codes(ForestLegs x, int r) {
        StringBuilder row = new StringBuilder();
        for (int k = 0; k < x.runner(r, 4); k++) {
            row.append(k == 0 ? "" : " ").append(x.punch(r, k, 0)).append('@').append(x.punch(r, k, 1));
        }
        return row.toString();
    }

    private static void placeOfAdd() {
        check.says("ACT: a RUNNER has a PUNCH more, behind all his of that TIME or before: its place");
        String text = "course a 1;runner p a 5 20:1 5,2 5,3 10,4 10,5 20,6 20;runner q a 5 20";
        int[][] due = {{5, 2}, {6, 2}, {9, 2}, {10, 4}, {11, 4}, {19, 4}, {20, 6}};
        String[] rows = {"1@5 2@5 9@5 3@10 4@10 5@20 6@20", "1@5 2@5 9@6 3@10 4@10 5@20 6@20", "1@5 2@5 9@9 3@10 4@10 5@20 6@20",
            "1@5 2@5 3@10 4@10 9@10 5@20 6@20", "1@5 2@5 3@10 4@10 9@11 5@20 6@20", "1@5 2@5 3@10 4@10 9@19 5@20 6@20",
            "1@5 2@5 3@10 4@10 5@20 6@20 9@20"};
        for (int i = 0; i < due.length; i++) {
            ForestLegs x = Check.told(text);
            check.answered("add at " + due[i][0], x, x.add(0, 9, due[i][0]), due[i][1]);
            check.due("the row behind it", codes(x, 0), rows[i]);
            check.due("another one's stay", x.runner(1, 4), 0);
            check.answered("the first of nobody's", x, x.add(1, 9, due[i][0]), 0);
        }
    }

    private static void numbersOfAdd() {
        check.says("2 (CODE, TIME START .. FINISH); 3 (he has 16)");
        ForestLegs x = Check.told("course a 1;runner p a 5 20;runner q a 0 9999");
        int[][] refused = {{0, 10}, {100, 10}, {-1, 10}, {1, 4}, {1, 21}, {1, -1}, {99, 4}, {99, 21}, {0, 4},
            {Integer.MIN_VALUE, 10}, {Integer.MAX_VALUE, 10}, {1, Integer.MIN_VALUE}, {1, Integer.MAX_VALUE}};
        for (int[] row : refused) {
            check.refused("add(0, " + row[0] + ", " + row[1] + ")", x, x.add(0, row[0], row[1]), 2);
        }
        check.due("none came", x.runner(0, 4), 0);
        check.answered("add(0, 1, 5)", x, x.add(0, 1, 5), 0);
        check.answered("add(0, 99, 20)", x, x.add(0, 99, 20), 1);
        check.answered("add(1, 1, 0)", x, x.add(1, 1, 0), 0);
        check.answered("add(1, 1, 9999)", x, x.add(1, 1, 9999), 1);
        check.refused("add(1, 1, 10000)", x, x.add(1, 1, 10000), 2);
        // by START and FINISH as they are now
        x.start(0, 3);
        x.finish(0, 22);
        check.answered("add(0, 2, 3)", x, x.add(0, 2, 3), 0);
        check.answered("add(0, 2, 22)", x, x.add(0, 2, 22), 3);
        check.refused("add(0, 2, 2)", x, x.add(0, 2, 2), 2);
        check.refused("add(0, 2, 23)", x, x.add(0, 2, 23), 2);
    }

    private static void roomOfAdd() {
        check.says("3 (he has 16)");
        ForestLegs x = Check.told("course a 1;runner p a 0 99;runner q a 0 99");
        for (int k = 0; k < 16; k++) {
            check.answered("punch " + k, x, x.add(0, k + 1, 50), k);
        }
        for (int time : new int[] {0, 50, 99}) {
            check.refused("one more at " + time, x, x.add(0, 7, time), 3);
        }
        check.refused("the number goes ahead of no room", x, x.add(0, 7, 100), 2);
        check.due("sixteen", x.runner(0, 4), 16);
        check.answered("another runner has room", x, x.add(1, 7, 50), 0);
        check.answered("the first goes", x, x.drop(0, 0), 1);
        check.answered("there is room again", x, x.add(0, 7, 50), 15);
        check.refused("and none again", x, x.add(0, 7, 50), 3);
        x.undo();
        check.answered("room by undo()", x, x.add(0, 8, 0), 0);
        check.refused("and none again", x, x.add(0, 7, 50), 3);
    }

    private static void drop() {
        check.says("ACT: PUNCH k goes: its CODE");
        String text = "course a 1;runner p a 0 99:1 5" + Check.repeat(",2 5", 14) + ",99 9;runner q a 0 99:7 5";
        ForestLegs x = Check.told(text);
        check.answered("the last", x, x.drop(0, 15), 99);
        check.refused("it is gone", x, x.drop(0, 15), 1);
        check.answered("the first", x, x.drop(0, 0), 1);
        check.due("control 0 is missed", x.missed(0), 1);
        for (int left = 13; left >= 0; left--) {
            check.answered("one of the rest", x, x.drop(0, left), 2);
            check.due("as many are left", x.runner(0, 4), left);
        }
        check.refused("there is none left", x, x.drop(0, 0), 1);
        check.answered("the only one of another", x, x.drop(1, 0), 7);
        check.refused("that is gone, too", x, x.drop(1, 0), 1);
        check.due("punches of all", x.about(4), 0);
    }

    private static void start() {
        check.says("ACT: START of a RUNNER is t: what it was. NONE: 1; 2 (0 .. FINISH less 1); 5 (a PUNCH is before that)");
        ForestLegs x = Check.told("course a 1;runner p a 5 20:1 10,2 15;runner q a 0 9999;runner s a 0 20:1 0");
        check.refused("start(0, -1)", x, x.start(0, -1), 2);
        check.refused("start(0, 20)", x, x.start(0, 20), 2);
        check.refused("start(0, 19)", x, x.start(0, 19), 5);
        check.refused("start(0, 11)", x, x.start(0, 11), 5);
        check.answered("start(0, 10)", x, x.start(0, 10), 5);
        check.answered("start(0, 0)", x, x.start(0, 0), 10);
        check.answered("start(0, 0) again", x, x.start(0, 0), 0);
        check.answered("start(1, 9998)", x, x.start(1, 9998), 0);
        check.refused("start(1, 9999)", x, x.start(1, 9999), 2);
        check.refused("a punch at START", x, x.start(2, 1), 5);
        check.answered("as it is", x, x.start(2, 0), 0);
        x.drop(2, 0);
        check.answered("the punch has gone", x, x.start(2, 19), 0);
        check.due("TOTAL by it", x.runner(2, 3), 1);
    }

    private static void finish() {
        check.says("ACT: FINISH of a RUNNER is t: what it was. NONE: 1; 2 (START and 1 .. 9,999); 5 (a PUNCH is behind that)");
        ForestLegs x = Check.told("course a 1;runner p a 5 20:1 10,2 15;runner q a 9998 9999;runner s a 0 20:1 20");
        check.refused("finish(0, 5)", x, x.finish(0, 5), 2);
        check.refused("finish(0, 10000)", x, x.finish(0, 10000), 2);
        check.refused("finish(0, -1)", x, x.finish(0, -1), 2);
        check.refused("finish(0, 6)", x, x.finish(0, 6), 5);
        check.refused("finish(0, 14)", x, x.finish(0, 14), 5);
        check.answered("finish(0, 15)", x, x.finish(0, 15), 20);
        check.answered("finish(0, 9999)", x, x.finish(0, 9999), 15);
        check.refused("finish(1, 9998)", x, x.finish(1, 9998), 2);
        check.answered("finish(1, 9999)", x, x.finish(1, 9999), 9999);
        check.refused("a punch at FINISH", x, x.finish(2, 19), 5);
        check.answered("as it is", x, x.finish(2, 20), 20);
        x.drop(2, 0);
        check.answered("the punch has gone", x, x.finish(2, 1), 20);
        check.due("TOTAL by it", x.runner(2, 3), 1);
    }

    private static void move() {
        check.says("ACT: a RUNNER is of a COURSE: of which he was");
        ForestLegs x = Check.told("course a 1;course b 2,1;course c 1,2,3;runner p a 0 9:2 5,1 6");
        int[] to = {2, 1, 1, 0, 0, 2};
        int was = 0;
        for (int c : to) {
            check.answered("move to " + c, x, x.move(0, c), was);
            check.due("course", x.runner(0, 0), c);
            check.due("misses", x.runner(0, 5), c == 2 ? 2 : 0);
            check.due("runners of it", x.course(c, 1), 1);
            check.due("runners of all", x.course(0, 1) + x.course(1, 1) + x.course(2, 1), 1);
            check.due("points", x.split(0, x.course(c, 0), 0), 9);
            check.refused("no more points", x, x.split(0, x.course(c, 0) + 1, 0), 1);
            was = c;
        }
        check.due("each was an act", x.about(6), 6);
        check.due("his name stays", namedAfter(x, "p"), 0);
    }

    private static int namedAfter(ForestLegs x, String name) {
        Check.feed(x, name);
        return Check.named(x, name.length(), false);
    }

    private static void become() {
        check.says("ACT: gap (what 0), slack (1) is v (0 .. 600): what it was");
        ForestLegs x = Check.told("course a 1");
        int[] was = {10, 20};
        for (int v : new int[] {0, 600, 1, 599, 599, 600, 0}) {
            for (int what = 0; what < 2; what++) {
                check.answered("become(" + what + ", " + v + ")", x, x.become(what, v), was[what]);
                check.due("it is that", x.about(2 + what), v);
                was[what] = v;
            }
        }
        for (int v : new int[] {-1, 601, Integer.MIN_VALUE, Integer.MAX_VALUE}) {
            for (int what = 0; what < 2; what++) {
                check.refused("become(" + what + ", " + v + ")", x, x.become(what, v), 2);
                check.due("it stays", x.about(2 + what), was[what]);
            }
        }
    }

    private static void recode() {
        check.says("ACT: CONTROL i of a COURSE has a CODE (1 .. 99): what it had. NONE: 1; 2; 5 (one beside it has that CODE)");
        for (int i = 0; i < 10; i++) {
            ForestLegs x = Check.told("course a 1,2,3,4,5,6,7,8,9,10;course b 50");
            for (int other = 0; other < 10; other++) {
                boolean beside = other == i - 1 || other == i + 1;
                if (beside) {
                    check.refused("control " + i + " like " + other, x, x.recode(0, i, other + 1), 5);
                }
            }
            check.answered("the code that it has", x, x.recode(0, i, i + 1), i + 1);
            int far = (i + 5) % 10;
            check.answered("a code further off", x, x.recode(0, i, far + 1), i + 1);
            check.due("it has that", x.code(0, i), far + 1);
            check.answered("a code of another course", x, x.recode(0, i, 50), far + 1);
            check.answered("1 or 99", x, x.recode(0, i, i > 1 ? 1 : 99), 50);
            check.refused("0", x, x.recode(0, i, 0), 2);
            check.refused("100", x, x.recode(0, i, 100), 2);
            check.due("the other course stays", x.code(1, 0), 50);
        }
        // neither the last one of a course nor the first one is beside the other
        ForestLegs y = Check.told("course a 1,2,3");
        check.answered("the first like the last", y, y.recode(0, 0, 3), 1);
        check.answered("the last like the first was", y, y.recode(0, 2, 1), 3);
        check.answered("what was beside it before counts no more", y, y.recode(0, 1, 9), 2);
        check.answered("the first like the second was", y, y.recode(0, 0, 2), 3);
    }

    private static void cancel() {
        check.says("ACT: CONTROL i of a COURSE is void, goes: how many CONTROLS are left. NONE: 1; "
            + "5 (it is the only one; those beside it would be alike)");
        for (int i = 0; i < 10; i++) {
            ForestLegs x = Check.told("course a 1,2,3,4,5,6,7,8,9,10;course b 1");
            check.answered("cancel " + i, x, x.cancel(0, i), 9);
            for (int j = 0; j < 9; j++) {
                check.due("control " + j + " without " + i, x.code(0, j), j < i ? j + 1 : j + 2);
            }
            check.refused("there is no tenth", x, x.code(0, 9), 1);
            check.refused("it can't go", x, x.cancel(0, 9), 1);
            check.refused("the only one", x, x.cancel(1, 0), 5);
            for (int left = 8; left >= 1; left--) {
                check.answered("down to " + left, x, x.cancel(0, left), left);
            }
            check.refused("the only one left", x, x.cancel(0, 0), 5);
            check.due("it stays", x.course(0, 0), 1);
        }
        ForestLegs y = Check.told("course a 1,2,1,2");
        check.refused("between like ones", y, y.cancel(0, 1), 5);
        check.refused("between like ones again", y, y.cancel(0, 2), 5);
        check.answered("the first has but one beside it", y, y.cancel(0, 0), 3);
        check.answered("the last has but one beside it", y, y.cancel(0, 2), 2);
        check.answered("one of two", y, y.cancel(0, 1), 1);
        ForestLegs z = Check.told("course a 1,2");
        check.answered("the first of two", z, z.cancel(0, 0), 1);
    }

    private static void callsThatSaySo() throws Exception {
        check.says("ACTS (calls that say so)");
        for (Method method : ForestLegs.class.getDeclaredMethods()) {
            String name = method.getName();
            if (!Modifier.isPublic(method.getModifiers()) || name.equals("text") || name.equals("undo")) {
                continue;
            }
            ForestLegs x = Check.told("course a 1,2,1;course b 1;runner p a 0 9:1 1,2 2,1 3;runner q a 0 9:1 1");
            x.become(0, 5);
            x.become(0, 6);
            String was = without6(Check.state(x));
            Object[] values = new Object[method.getParameterCount()];
            for (int i = 0; i < values.length; i++) {
                values[i] = method.getParameterTypes()[i] == boolean.class ? (Object) true : (Object) Math.min(i, 1);
            }
            // most calls take 0, 1, 1; these don't
            switch (name) {
                case "packs", "pack", "over" -> values[0] = 1;
                case "cancel" -> values[1] = 0;
                case "finish" -> values[1] = 5;
                case "recode" -> values[2] = 3;
                default -> {
                }
            }
            Check.quietly(method, x, values);
            boolean act = ACTS.contains(name);
            check.due(name + " is taken", name.equals("feed") || x.trouble() == 0 ? 1 : 0, 1);
            check.due("acts behind " + name, x.about(6), act ? 3 : 2);
            check.due(name + " changes something", without6(Check.state(x)).equals(was) ? 0 : 1,
                act && !name.equals("become") ? 1 : 0);
            check.due("undo() behind " + name, x.undo(), act ? 2 : 1);
        }
    }

    private static void latestTen() {
        check.says("the latest 10 that weren't refused can be undone, the latest first");
        for (int acts = 0; acts <= 25; acts++) {
            ForestLegs x = Check.told("gap 100;course a 1");
            for (int act = 1; act <= acts; act++) {
                check.due("act " + act, x.become(0, 100 + act), 99 + act);
            }
            int kept = Math.min(acts, 10);
            check.answered("kept of " + acts, x, x.about(6), kept);
            for (int left = kept - 1; left >= 0; left--) {
                check.answered("undo(), " + left + " left", x, x.undo(), left);
                check.due("gap with " + left + " left", x.about(2), 100 + acts - kept + left);
                check.due("can be undone", x.about(6), left);
            }
            check.refused("no more of " + acts, x, x.undo(), 5);
            check.due("gap stays", x.about(2), 100 + acts - kept);
        }
    }

    private static void refusedOnesDontCount() {
        check.says("the latest 10 that weren't refused can be undone");
        ForestLegs x = Check.told("course a 1;runner p a 0 9:1 5;runner q a 0 9:1 5" + Check.repeat(",1 5", 15));
        for (int act = 0; act < 10; act++) {
            check.answered("become", x, x.become(1, 300 + act), act == 0 ? 20 : 299 + act);
            check.refused("add, a number", x, x.add(0, 0, 5), 2);
            check.refused("add, no room", x, x.add(1, 1, 5), 3);
            check.refused("drop", x, x.drop(0, 1), 1);
            check.refused("start", x, x.start(0, 6), 5);
            check.refused("finish", x, x.finish(0, 4), 5);
            check.refused("move", x, x.move(0, 1), 1);
            check.refused("become, what", x, x.become(2, 5), 1);
            check.refused("become, a number", x, x.become(1, 601), 2);
            check.refused("recode", x, x.recode(0, 0, 0), 2);
            check.refused("cancel", x, x.cancel(0, 0), 5);
            check.due("acts", x.about(6), act + 1);
        }
        for (int left = 9; left >= 0; left--) {
            check.answered("undo()", x, x.undo(), left);
            check.due("slack with " + left + " left", x.about(3), left == 0 ? 20 : 299 + left);
        }
        check.refused("no more", x, x.undo(), 5);
    }

    private static void keptOnesComeRound() {
        check.says("the latest 10 that weren't refused can be undone, the latest first");
        ForestLegs x = Check.told("gap 0;course a 1");
        for (int act = 1; act <= 12; act++) {
            x.become(0, act);
        }
        for (int i = 0; i < 4; i++) {
            x.undo();
        }
        check.due("gap behind four", x.about(2), 8);
        check.due("six can be undone", x.about(6), 6);
        for (int act = 1; act <= 7; act++) {
            x.become(0, 100 + act);
            check.due("acts", x.about(6), Math.min(10, 6 + act));
        }
        int[] gaps = {106, 105, 104, 103, 102, 101, 8, 7, 6, 5};
        for (int i = 0; i < 10; i++) {
            check.answered("undo", x, x.undo(), 9 - i);
            check.due("gap", x.about(2), gaps[i]);
        }
        check.refused("no more", x, x.undo(), 5);
        x.become(0, 50);
        check.answered("an act behind that", x, x.undo(), 0);
        check.due("gap", x.about(2), 5);
        check.says("The latest ACT is undone: how many still can be");
        check.refused("an undo() is no act", x, x.undo(), 5);
    }

    private static void textLeavesNone() {
        check.says("(a TEXT leaves none)");
        ForestLegs x = Check.told("gap 3;course a 1");
        x.become(0, 4);
        x.become(0, 5);
        Check.tell(x, "gap 7");
        check.answered("a faulty text leaves them", x, x.about(6), 2);
        x.text(-1);
        check.answered("a refused one, too", x, x.undo(), 1);
        check.due("gap", x.about(2), 4);
        Check.tell(x, "gap 3;course a 1");
        check.answered("a sound one leaves none", x, x.about(6), 0);
        check.refused("undo()", x, x.undo(), 5);
        check.due("gap of the text", x.about(2), 3);
        for (int act = 0; act < 11; act++) {
            x.become(0, act);
        }
        check.due("ten of them anew", x.about(6), 10);
        check.says("NONE: 1 (no TEXT); 5.");
        ForestLegs y = new ForestLegs();
        check.refused("no text", y, y.undo(), 1);
    }

    private static void undoOfEachKind() {
        check.says("The latest ACT is undone");
        String text = "gap 3;slack 4;course a 1,2,3,4,5,6,7,8,9,10;course b 3,1;course c 7;runner p a 5 90:1 10,2 20,2 20,3 20,1 90;"
            + "runner q b 0 9999:3 0" + Check.repeat(",1 0", 14) + ",1 9999;runner s c 3 4";
        String[] states = new String[11];
        ForestLegs x = Check.told(text);
        for (int act = 0; act < 10; act++) {
            states[act] = without6(Check.state(x));
            act(x, act);
            check.due("act " + act + " is taken", x.trouble(), 0);
        }
        for (int act = 9; act >= 0; act--) {
            check.answered("undo of " + act, x, x.undo(), act);
            check.due("the state ahead of " + act, without6(Check.state(x)), states[act]);
        }
        check.due("as in a new object", Check.state(x), Check.state(Check.told(text)));
    }

    /** The state but for how many acts can be undone. */
    private static String without6(String state) {
        return state.substring(state.indexOf('/'));
    }

    private static void act(ForestLegs x, int act) {
        switch (act) {
            case 0 -> x.drop(1, 15);
            case 1 -> x.add(1, 3, 9999);
            case 2 -> x.cancel(0, 9);
            case 3 -> x.cancel(0, 0);
            case 4 -> x.recode(0, 4, 99);
            case 5 -> x.move(1, 0);
            case 6 -> x.move(0, 2);
            case 7 -> x.start(2, 0);
            case 8 -> x.finish(2, 9999);
            default -> x.recode(2, 0, 1);
        }
    }

    /** Each act, then undo(): each call answers as if there had been no act. */
    private static void undoForEachCall() throws Exception {
        check.says("The latest ACT is undone");
        String text = "gap 2;slack 1;course a 1,2,3,1,2;course b 3,2;course c 5;runner p a 0 90:1 20,2 40,3 60,1 70,2 80;"
            + "runner q a 5 95:1 21,2 50,3 61,1 70;runner s b 10 80:3 30,2 50;runner t a 5 99:1 22,2 41,3 80,1 81,2 82";
        for (Method method : ForestLegs.class.getDeclaredMethods()) {
            String name = method.getName();
            if (!Modifier.isPublic(method.getModifiers()) || ACTS.contains(name) || OTHERS.contains(name)) {
                continue;
            }
            String due = Check.answers(Check.told(text), method);
            for (int act = 0; act < 9; act++) {
                ForestLegs x = Check.told(text);
                check.due("act " + act + " is refused", actOnSome(x, act) == -1 ? 1 : 0, 0);
                check.due("undo()", x.undo(), 0);
                check.due("behind undo() of act " + act, Check.answers(x, method), due);
            }
        }
    }

    private static int actOnSome(ForestLegs x, int act) {
        switch (act) {
            case 0:
                return x.drop(0, 2);
            case 1:
                return x.add(1, 2, 75);
            case 2:
                return x.cancel(0, 2);
            case 3:
                return x.recode(0, 4, 5);
            case 4:
                return x.move(0, 1);
            case 5:
                return x.start(3, 0);
            case 6:
                return x.finish(0, 82);
            case 7:
                return x.become(0, 600);
            default:
                return x.become(1, 600);
        }
    }

    private static void undoBringsBackPlaces() {
        check.says("The latest ACT is undone: how many still can be");
        String text = "course a 1,2,3,1;runner p a 0 50:1 9,2 9,3 9,4 9,5 9,6 30";
        for (int k = 0; k < 6; k++) {
            ForestLegs x = Check.told(text);
            String was = codes(x, 0);
            x.drop(0, k);
            x.undo();
            check.due("punch " + k + " comes back to its place", codes(x, 0), was);
        }
        for (int i = 0; i < 4; i++) {
            ForestLegs x = Check.told(text);
            x.cancel(0, i);
            x.undo();
            check.due("control " + i + " comes back to its place", Check.state(x), Check.state(Check.told(text)));
            x.recode(0, i, 77);
            x.undo();
            check.due("the code of " + i + " comes back", Check.state(x), Check.state(Check.told(text)));
        }
        for (int time : new int[] {0, 9, 10, 30, 50}) {
            ForestLegs x = Check.told(text);
            x.add(0, 8, time);
            x.undo();
            check.due("the punch at " + time + " goes again", Check.state(x), Check.state(Check.told(text)));
        }
        // down to one control and back
        ForestLegs y = Check.told(text);
        for (int i = 3; i >= 1; i--) {
            y.cancel(0, i);
        }
        for (int left = 2; left >= 0; left--) {
            check.answered("undo of cancel", y, y.undo(), left);
        }
        check.due("all controls are back", Check.state(y), Check.state(Check.told(text)));
    }

    private static void answersFollow() {
        check.says("VALID: none is MISSED on his own COURSE (all below is by that)");
        ForestLegs x = Check.told("course a 1,2,3;course b 1,3;runner p a 0 40:1 10,3 30;runner q a 0 50:1 10,2 20,3 30");
        check.due("not valid", x.runner(0, 7), 0);
        check.due("the only valid one is first", x.ranked(0, 0), 1);
        check.answered("without control 1", x, x.cancel(0, 1), 2);
        check.due("valid now", x.runner(0, 7), 1);
        check.due("and first", x.ranked(0, 0), 0);
        check.due("his legs", x.leg(0, 1, 0), 20);
        check.due("courses are alike now", x.common(0, 1), 1);
        check.due("bits of points", x.together(0, 1), 1 + 2 + 4);
        x.undo();
        check.due("not valid again", x.runner(0, 7), 0);
        check.due("first again", x.ranked(0, 0), 1);
        check.due("courses aren't alike again", x.common(0, 1), 0);
        check.due("bits of points again", x.together(0, 1), 1 + 4 + 8);
        x.move(0, 1);
        check.due("valid on another one", x.runner(0, 8), 1);
        check.refused("not one course", x, x.together(0, 1), 5);
        x.undo();
        x.add(0, 2, 20);
        check.due("valid with a punch more", x.runner(0, 8), 1);
        x.start(1, 10);
        check.due("like totals", x.runner(1, 8), 1);
        x.finish(1, 49);
        check.due("the other is first", x.runner(0, 8), 2);
        x.recode(0, 2, 9);
        check.due("none is valid", x.about(5), 0);
    }
}
