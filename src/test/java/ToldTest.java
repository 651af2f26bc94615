/** Promises 6 to 10: about, course, code, runner, punch. */
final class ToldTest {
    private static final Check check = new Check();

    public static void main(String[] args) {
        about();
        course();
        code();
        runner();
        punch();
        check.end();
    }

    private static void row(String what, int[] want, int[] got) {
        for (int i = 0; i < want.length; i++) {
            check.due(what + " " + i, got[i], want[i]);
        }
    }

    private static void about() {
        ForestLegs x = Forest.fresh();
        int[] want = {3, 6, 15, 10, 21, 4, 0};
        for (int what = 0; what < want.length; what++) {
            check.answered("6: about(" + what + ")", x, x.about(what), want[what]);
        }
        check.refused("6: about(7)", x, x.about(7), 1);
        check.refused("6: about(-1)", x, x.about(-1), 1);
        x.drop(0, 0);
        check.due("6: punches behind drop", x.about(4), 20);
        check.due("6: valid ones behind drop", x.about(5), 3);
        check.due("6: acts behind drop", x.about(6), 1);
    }

    private static void course() {
        ForestLegs x = Forest.fresh();
        int[][] want = {{5, 3, 2, 295, 300}, {3, 3, 2, 150, 150}, {1, 0, 0, -2, -2}};
        for (int c = 0; c < 3; c++) {
            for (int what = 0; what < 5; what++) {
                check.answered("7: course(" + c + ", " + what + ")", x, x.course(c, what), want[c][what]);
            }
        }
        check.refused("7: course(3, 0)", x, x.course(3, 0), 1);
        check.refused("7: course(-1, 0)", x, x.course(-1, 0), 1);
        check.refused("7: course(0, 5)", x, x.course(0, 5), 1);
        check.refused("7: course(0, -1)", x, x.course(0, -1), 1);
        // an invalid one is the fastest and best of a leg
        ForestLegs y = Check.told("course a 1,2;runner f a 0 9:2 5;runner v a 0 50:1 10,2 30;runner w a 0 40:1 10,2 25");
        check.due("7: the least total of valid ones", y.course(0, 4), 40);
        check.due("7: ideal by all who have the legs", y.course(0, 3), 10 + 15 + 4);
        ForestLegs z = Check.told("course a 1,2;runner f a 0 9:1 2;runner g a 0 9:1 3");
        check.due("7: no ideal if a leg is had by none", z.course(0, 3), -2);
        check.due("7: no valid one", z.course(0, 4), -2);
    }

    private static void code() {
        ForestLegs x = Forest.fresh();
        int[] want = {31, 40, 32, 40, 33};
        for (int i = 0; i < want.length; i++) {
            check.answered("8: code(0, " + i + ")", x, x.code(0, i), want[i]);
        }
        check.due("8: code(2, 0)", x.code(2, 0), 1);
        check.refused("8: code(0, 5)", x, x.code(0, 5), 1);
        check.refused("8: code(0, -1)", x, x.code(0, -1), 1);
        check.refused("8: code(3, 0)", x, x.code(3, 0), 1);
        check.refused("8: code(-1, 0)", x, x.code(-1, 0), 1);
    }

    private static void runner() {
        ForestLegs x = Forest.fresh();
        int[][] want = {
            {0, 0, 300, 300, 5, 0, 0, 1, 1, 0},
            {0, 10, 340, 330, 5, 0, 0, 1, 2, 30},
            {0, 20, 350, 330, 4, 1, 0, 0, -2, -2},
            {1, 0, 150, 150, 3, 0, 0, 1, 1, 0},
            {1, 5, 155, 150, 4, 0, 1, 1, 1, 0},
            {1, 60, 160, 100, 0, 3, 0, 0, -2, -2},
        };
        for (int r = 0; r < want.length; r++) {
            for (int what = 0; what < 10; what++) {
                check.answered("9: runner(" + r + ", " + what + ")", x, x.runner(r, what), want[r][what]);
            }
        }
        check.refused("9: runner(6, 0)", x, x.runner(6, 0), 1);
        check.refused("9: runner(-1, 0)", x, x.runner(-1, 0), 1);
        check.refused("9: runner(0, 10)", x, x.runner(0, 10), 1);
        check.refused("9: runner(0, -1)", x, x.runner(0, -1), 1);
        ForestLegs y = Check.told("course a 1;runner p a 0 9:1 2;runner q a 0 9:1 2;runner s a 0 20:1 2;runner t a 0 8");
        row("9: places of like totals", new int[] {1, 1, 3, -2},
            new int[] {y.runner(0, 8), y.runner(1, 8), y.runner(2, 8), y.runner(3, 8)});
        row("9: behind the least of valid ones", new int[] {0, 0, 11, -2},
            new int[] {y.runner(0, 9), y.runner(1, 9), y.runner(2, 9), y.runner(3, 9)});
    }

    private static void punch() {
        ForestLegs x = Forest.fresh();
        check.answered("10: code", x, x.punch(Forest.EVE, 0, 0), 35);
        check.answered("10: time", x, x.punch(Forest.EVE, 0, 1), 30);
        check.answered("10: extra", x, x.punch(Forest.EVE, 0, 2), -2);
        check.answered("10: takes 0", x, x.punch(Forest.EVE, 1, 2), 0);
        check.answered("10: takes 2", x, x.punch(Forest.EVE, 3, 2), 2);
        check.answered("10: takes 3 without 2", x, x.punch(Forest.CAT, 2, 2), 3);
        check.refused("10: punch(4, 4, 0)", x, x.punch(4, 4, 0), 1);
        check.refused("10: punch(4, -1, 0)", x, x.punch(4, -1, 0), 1);
        check.refused("10: punch(5, 0, 0)", x, x.punch(5, 0, 0), 1);
        check.refused("10: punch(6, 0, 0)", x, x.punch(6, 0, 0), 1);
        check.refused("10: punch(-1, 0, 0)", x, x.punch(-1, 0, 0), 1);
        check.refused("10: punch(0, 0, 3)", x, x.punch(0, 0, 3), 1);
        check.refused("10: punch(0, 0, -1)", x, x.punch(0, 0, -1), 1);
    }
}
