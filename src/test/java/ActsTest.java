/** Promises 39 to 47: add, drop, start, finish, move, become, recode, cancel, undo. */
final class ActsTest {
    private static final Check check = new Check();

    public static void main(String[] args) {
        add();
        drop();
        start();
        finish();
        move();
        become();
        recode();
        cancel();
        undoEach();
        undoTen();
        check.end();
    }

    /** A refused act changes nothing but what the document says. */
    private static void changesNothing(String what, ForestLegs x, String was) {
        check.due(what + " changes nothing", Check.state(x), was);
    }

    private static void add() {
        ForestLegs x = Forest.fresh();
        String was = Check.state(x);
        check.refused("39: add(6, 32, 100)", x, x.add(6, 32, 100), 1);
        check.refused("39: add(-1, 0, 100)", x, x.add(-1, 0, 100), 1);
        check.refused("39: code 0", x, x.add(2, 0, 100), 2);
        check.refused("39: code 100", x, x.add(2, 100, 100), 2);
        check.refused("39: before start", x, x.add(2, 32, 19), 2);
        check.refused("39: behind finish", x, x.add(2, 32, 351), 2);
        changesNothing("39: what is refused", x, was);
        check.answered("39: add(2, 32, 180)", x, x.add(2, 32, 180), 2);
        check.due("39: code", x.punch(2, 2, 0), 32);
        check.due("39: time", x.punch(2, 2, 1), 180);
        check.due("39: takes 2", x.punch(2, 2, 2), 2);
        check.due("39: the next goes on", x.punch(2, 3, 1), 215);
        check.due("39: valid then", x.runner(2, 7), 1);
        check.due("39: punches of all", x.about(4), 22);
        check.due("39: acts", x.about(6), 1);
        check.answered("39: behind all of that time", x, x.add(2, 99, 180), 3);
        check.answered("39: at start", x, x.add(2, 98, 20), 0);
        check.answered("39: at finish", x, x.add(2, 97, 350), 7);
        check.due("39: code of it", x.punch(2, 7, 0), 97);
        for (int k = 8; k < 16; k++) {
            check.answered("39: more", x, x.add(2, 5, 350), k);
        }
        was = Check.state(x);
        check.refused("39: he has 16", x, x.add(2, 5, 350), 3);
        check.refused("39: the number goes ahead of no room", x, x.add(2, 0, 350), 2);
        changesNothing("39: no room", x, was);
        check.due("39: ten acts are kept", x.about(6), 10);
    }

    private static void drop() {
        ForestLegs x = Forest.fresh();
        String was = Check.state(x);
        check.refused("40: drop(0, 5)", x, x.drop(0, 5), 1);
        check.refused("40: drop(0, -1)", x, x.drop(0, -1), 1);
        check.refused("40: drop(6, 0)", x, x.drop(6, 0), 1);
        check.refused("40: drop(-1, 0)", x, x.drop(-1, 0), 1);
        check.refused("40: drop(5, 0)", x, x.drop(5, 0), 1);
        changesNothing("40: what is refused", x, was);
        check.answered("40: drop(0, 1)", x, x.drop(0, 1), 40);
        check.due("40: the next comes up", x.punch(0, 1, 0), 32);
        check.due("40: punches", x.runner(0, 4), 4);
        check.due("40: missed", x.missed(0), 2);
        check.due("40: not valid", x.runner(0, 7), 0);
        check.due("40: the other's place", x.runner(1, 8), 1);
    }

    private static void start() {
        ForestLegs x = Forest.fresh();
        String was = Check.state(x);
        check.refused("41: start(6, 0)", x, x.start(6, 0), 1);
        check.refused("41: start(-1, 0)", x, x.start(-1, 0), 1);
        check.refused("41: start(1, -1)", x, x.start(1, -1), 2);
        check.refused("41: start(1, 340)", x, x.start(1, 340), 2);
        check.refused("41: start(1, 339)", x, x.start(1, 339), 5);
        check.refused("41: start(1, 56)", x, x.start(1, 56), 5);
        changesNothing("41: what is refused", x, was);
        check.answered("41: start(1, 55)", x, x.start(1, 55), 10);
        check.due("41: split 0", x.split(1, 0, 0), 0);
        check.due("41: leg 0", x.leg(1, 0, 0), 0);
        check.due("41: total", x.runner(1, 3), 285);
        check.due("41: place", x.runner(1, 8), 1);
        check.answered("41: start(1, 0)", x, x.start(1, 0), 55);
        check.answered("41: without punches", x, x.start(5, 159), 60);
        check.due("41: total of it", x.runner(5, 3), 1);
        check.answered("41: as it is", x, x.start(5, 159), 159);
        check.due("41: that is an act, too", x.about(6), 4);
        ForestLegs y = Check.told("course a 1;runner p a 5 20:1 10");
        check.refused("41: the only punch is before that", y, y.start(0, 11), 5);
        check.answered("41: the only punch is then", y, y.start(0, 10), 5);
    }

    private static void finish() {
        ForestLegs x = Forest.fresh();
        String was = Check.state(x);
        check.refused("42: finish(6, 0)", x, x.finish(6, 0), 1);
        check.refused("42: finish(-1, 0)", x, x.finish(-1, 0), 1);
        check.refused("42: finish(1, 10)", x, x.finish(1, 10), 2);
        check.refused("42: finish(1, 10000)", x, x.finish(1, 10000), 2);
        check.refused("42: finish(1, 11)", x, x.finish(1, 11), 5);
        check.refused("42: finish(1, 299)", x, x.finish(1, 299), 5);
        changesNothing("42: what is refused", x, was);
        check.answered("42: finish(1, 300)", x, x.finish(1, 300), 340);
        check.due("42: the last leg", x.leg(1, 5, 0), 0);
        check.due("42: total", x.runner(1, 3), 290);
        check.answered("42: finish(1, 9999)", x, x.finish(1, 9999), 300);
        check.due("42: its split", x.split(1, 5, 0), 9989);
        check.answered("42: without punches", x, x.finish(5, 61), 160);
        check.due("42: total of it", x.runner(5, 3), 1);
        ForestLegs y = Check.told("course a 1;runner p a 5 20:1 10");
        check.refused("42: the only punch is behind that", y, y.finish(0, 9), 5);
        check.answered("42: the only punch is then", y, y.finish(0, 10), 20);
    }

    private static void move() {
        ForestLegs x = Forest.fresh();
        String was = Check.state(x);
        check.refused("43: move(6, 0)", x, x.move(6, 0), 1);
        check.refused("43: move(-1, 0)", x, x.move(-1, 0), 1);
        check.refused("43: move(0, 3)", x, x.move(0, 3), 1);
        check.refused("43: move(0, -1)", x, x.move(0, -1), 1);
        changesNothing("43: what is refused", x, was);
        check.answered("43: move(3, 0)", x, x.move(3, 0), 1);
        check.due("43: course", x.runner(3, 0), 0);
        check.due("43: missed", x.missed(3), 2 + 8 + 16);
        check.due("43: extra", x.runner(3, 6), 1);
        check.due("43: points of that course", x.split(3, 5, 0), 150);
        check.due("43: runners", x.course(0, 1) * 10 + x.course(1, 1), 42);
        check.answered("43: where he is", x, x.move(3, 0), 0);
        check.due("43: acts", x.about(6), 2);
    }

    private static void become() {
        ForestLegs x = Forest.fresh();
        String was = Check.state(x);
        check.refused("44: become(2, 0)", x, x.become(2, 0), 1);
        check.refused("44: become(-1, 601)", x, x.become(-1, 601), 1);
        check.refused("44: become(0, -1)", x, x.become(0, -1), 2);
        check.refused("44: become(1, 601)", x, x.become(1, 601), 2);
        changesNothing("44: what is refused", x, was);
        check.answered("44: become(0, 600)", x, x.become(0, 600), 15);
        check.answered("44: become(1, 0)", x, x.become(1, 0), 10);
        check.due("44: gap", x.about(2), 600);
        check.due("44: slack", x.about(3), 0);
        check.answered("44: become(0, 0)", x, x.become(0, 0), 600);
        check.answered("44: become(1, 600)", x, x.become(1, 600), 0);
        check.due("44: gap", x.about(2), 0);
        check.due("44: slack", x.about(3), 600);
    }

    private static void recode() {
        ForestLegs x = Forest.fresh();
        String was = Check.state(x);
        check.refused("45: recode(3, 0, 5)", x, x.recode(3, 0, 5), 1);
        check.refused("45: recode(-1, 0, 5)", x, x.recode(-1, 0, 5), 1);
        check.refused("45: recode(0, 5, 5)", x, x.recode(0, 5, 5), 1);
        check.refused("45: recode(0, -1, 0)", x, x.recode(0, -1, 0), 1);
        check.refused("45: recode(0, 0, 0)", x, x.recode(0, 0, 0), 2);
        check.refused("45: recode(0, 0, 100)", x, x.recode(0, 0, 100), 2);
        check.refused("45: recode(0, 0, 40)", x, x.recode(0, 0, 40), 5);
        check.refused("45: recode(0, 4, 40)", x, x.recode(0, 4, 40), 5);
        check.refused("45: recode(0, 1, 32)", x, x.recode(0, 1, 32), 5);
        changesNothing("45: what is refused", x, was);
        check.answered("45: recode(0, 2, 99)", x, x.recode(0, 2, 99), 32);
        check.due("45: code", x.code(0, 2), 99);
        check.due("45: who missed it", x.missed(0) * 100 + x.missed(2), 404);
        check.due("45: the extra one", x.punch(0, 2, 2), -2);
        check.due("45: another course stays", x.code(1, 1), 32);
        check.answered("45: the code that it has", x, x.recode(0, 2, 99), 99);
        check.due("45: acts", x.about(6), 2);
        check.answered("45: the only one", x, x.recode(2, 0, 99), 1);
    }

    private static void cancel() {
        ForestLegs x = Forest.fresh();
        String was = Check.state(x);
        check.refused("46: cancel(3, 0)", x, x.cancel(3, 0), 1);
        check.refused("46: cancel(-1, 0)", x, x.cancel(-1, 0), 1);
        check.refused("46: cancel(0, 5)", x, x.cancel(0, 5), 1);
        check.refused("46: cancel(0, -1)", x, x.cancel(0, -1), 1);
        check.refused("46: the only one", x, x.cancel(2, 0), 5);
        check.refused("46: those beside it are alike", x, x.cancel(0, 2), 5);
        changesNothing("46: what is refused", x, was);
        check.answered("46: cancel(0, 3)", x, x.cancel(0, 3), 4);
        check.due("46: controls", x.course(0, 0), 4);
        check.due("46: code 3", x.code(0, 3), 33);
        check.due("46: cat missed", x.missed(2), 4);
        check.due("46: ann has one extra", x.runner(0, 6), 1);
        check.due("46: the finish is point 4", x.split(0, 4, 0), 300);
        check.refused("46: there is no point 5", x, x.split(0, 5, 0), 1);
        check.answered("46: cancel(0, 2)", x, x.cancel(0, 2), 3);
        check.due("46: cat is valid", x.runner(2, 7), 1);
        check.answered("46: the first", x, x.cancel(0, 0), 2);
        check.answered("46: the last", x, x.cancel(0, 1), 1);
        check.due("46: code 0", x.code(0, 0), 40);
        check.refused("46: the only one left", x, x.cancel(0, 0), 5);
        ForestLegs y = Check.told("course a 1,2,1,3");
        check.refused("46: those beside the second are alike", y, y.cancel(0, 1), 5);
        check.answered("46: those beside the third aren't", y, y.cancel(0, 2), 3);
        check.answered("46: nor those beside the second now", y, y.cancel(0, 1), 2);
    }

    private static void undone(String what, ForestLegs x, String was, int act) {
        check.due("47: " + what + " isn't refused", x.trouble(), 0);
        check.due("47: " + what + " changes something", Check.state(x).equals(was) ? 1 : 0, 0);
        check.answered("47: undo of " + what, x, x.undo(), 0);
        check.due("47: undo of " + what + " brings back", Check.state(x), was);
    }

    private static void undoEach() {
        ForestLegs x = Forest.fresh();
        String was = Check.state(x);
        check.refused("47: nothing to undo", x, x.undo(), 5);
        undone("add", x, was, x.add(2, 32, 180));
        undone("drop", x, was, x.drop(0, 1));
        undone("drop of the last", x, was, x.drop(0, 4));
        undone("start", x, was, x.start(1, 5));
        undone("finish", x, was, x.finish(1, 5000));
        undone("move", x, was, x.move(3, 0));
        undone("gap", x, was, x.become(0, 3));
        undone("slack", x, was, x.become(1, 3));
        undone("recode", x, was, x.recode(0, 2, 9));
        undone("cancel", x, was, x.cancel(0, 3));
        undone("cancel of the first", x, was, x.cancel(0, 0));
        undone("cancel of the last", x, was, x.cancel(0, 4));
        check.refused("47: nothing to undo", x, x.undo(), 5);
        // a punch dropped comes back to its place among those of like time
        ForestLegs y = Check.told("course a 1,2;runner p a 0 9:1 5,2 5,1 5");
        was = Check.state(y);
        undone("drop among like times", y, was, y.drop(0, 0));
    }

    private static void undoTen() {
        ForestLegs x = Forest.fresh();
        String[] states = new String[13];
        for (int act = 0; act < 12; act++) {
            states[act] = Check.state(x);
            if (act % 3 == 0) {
                x.add(0, 1 + act, 100);
            } else if (act % 3 == 1) {
                x.start(3, act);
            } else {
                x.become(0, act);
            }
            check.due("47: acts that can be undone", x.about(6), Math.min(10, act + 1));
        }
        x.add(0, 0, 0);
        check.due("47: a refused one is none", x.about(6), 10);
        for (int left = 9; left >= 0; left--) {
            check.answered("47: undo", x, x.undo(), left);
            String now = Check.state(x);
            check.due("47: state with " + left + " left", now.substring(now.indexOf('/')),
                states[left + 2].substring(states[left + 2].indexOf('/')));
        }
        check.refused("47: the first two stay", x, x.undo(), 5);
        x.finish(0, 999);
        check.due("47: a new act behind that", x.undo(), 0);
        x.finish(0, 999);
        Check.tell(x, "course a 1");
        check.refused("47: a text leaves none", x, x.undo(), 5);
    }
}
