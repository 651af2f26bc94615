/** Promises 14 to 19: split, leg, best, leads, changes, ranked. */
final class PointsTest {
    private static final Check check = new Check();

    public static void main(String[] args) {
        split();
        leg();
        best();
        leads();
        changes();
        ranked();
        check.end();
    }

    private static void split() {
        ForestLegs x = Forest.fresh();
        int[][] splits = {{50, 100, 160, 200, 260, 300}, {45, 100, 160, 220, 290, 330}, {55, 110, -2, 195, 270, 330}};
        int[][] places = {{2, 1, 1, 2, 1, 1}, {1, 1, 1, 3, 3, 2}, {3, 3, -2, 1, 2, 2}};
        int[][] behind = {{5, 0, 0, 5, 0, 0}, {0, 0, 0, 25, 30, 30}, {10, 10, -2, 0, 10, 30}};
        for (int r = 0; r < 3; r++) {
            for (int i = 0; i < 6; i++) {
                check.answered("14: split(" + r + ", " + i + ", 0)", x, x.split(r, i, 0), splits[r][i]);
                check.answered("14: split(" + r + ", " + i + ", 1)", x, x.split(r, i, 1), places[r][i]);
                check.answered("14: split(" + r + ", " + i + ", 2)", x, x.split(r, i, 2), behind[r][i]);
            }
        }
        check.due("14: not taken", x.split(Forest.FAY, 0, 0), -2);
        check.due("14: the finish always is", x.split(Forest.FAY, 3, 0), 100);
        check.due("14: its place, not valid", x.split(Forest.FAY, 3, 1), 1);
        check.due("14: behind one who isn't valid", x.split(Forest.DAN, 3, 2), 50);
        check.refused("14: split(0, 6, 0)", x, x.split(0, 6, 0), 1);
        check.refused("14: split(3, 4, 0)", x, x.split(3, 4, 0), 1);
        check.refused("14: split(0, -1, 0)", x, x.split(0, -1, 0), 1);
        check.refused("14: split(6, 0, 0)", x, x.split(6, 0, 0), 1);
        check.refused("14: split(-1, 0, 0)", x, x.split(-1, 0, 0), 1);
        check.refused("14: split(0, 0, 3)", x, x.split(0, 0, 3), 1);
        check.refused("14: split(0, 0, -1)", x, x.split(0, 0, -1), 1);
        check.refused("14: split(2, 2, 3), not taken", x, x.split(2, 2, 3), 1);
    }

    private static void leg() {
        ForestLegs x = Forest.fresh();
        int[][] times = {{50, 50, 60, 40, 60, 40}, {45, 55, 60, 60, 70, 40}, {55, 55, -2, -2, 75, 60}};
        int[][] places = {{2, 1, 1, 1, 1, 1}, {1, 2, 1, 2, 2, 1}, {3, 2, -2, -2, 3, 3}};
        int[][] lost = {{5, 0, 0, 0, 0, 0}, {0, 5, 0, 20, 10, 0}, {10, 5, -2, -2, 15, 20}};
        int[][] mistakes = {{0, 0, 0, 0, 0, 0}, {0, 0, 0, 20, 10, 0}, {0, 0, -2, -2, 0, 11}};
        for (int r = 0; r < 3; r++) {
            for (int i = 0; i < 6; i++) {
                check.answered("15: leg(" + r + ", " + i + ", 0)", x, x.leg(r, i, 0), times[r][i]);
                check.answered("15: leg(" + r + ", " + i + ", 1)", x, x.leg(r, i, 1), places[r][i]);
                check.answered("15: leg(" + r + ", " + i + ", 2)", x, x.leg(r, i, 2), lost[r][i]);
                check.answered("15: leg(" + r + ", " + i + ", 3)", x, x.leg(r, i, 3), mistakes[r][i]);
            }
        }
        check.due("15: the last leg of who misses the last control", x.leg(Forest.FAY, 3, 0), -2);
        check.refused("15: leg(0, 6, 0)", x, x.leg(0, 6, 0), 1);
        check.refused("15: leg(0, -1, 0)", x, x.leg(0, -1, 0), 1);
        check.refused("15: leg(6, 0, 0)", x, x.leg(6, 0, 0), 1);
        check.refused("15: leg(-1, 0, 0)", x, x.leg(-1, 0, 0), 1);
        check.refused("15: leg(0, 0, 4)", x, x.leg(0, 0, 4), 1);
        check.refused("15: leg(0, 0, -1)", x, x.leg(0, 0, -1), 1);
        // best of leg 0 is 0, of leg 1 as well
        ForestLegs y = Check.told("slack 0;course a 1,2;runner p a 5 9:1 5,2 5;runner q a 5 20:1 10,2 12");
        check.due("15: leg time 0", y.leg(0, 0, 0), 0);
        check.due("15: no mistake where best is 0", y.leg(0, 0, 3), -2);
        check.due("15: nor for another one", y.leg(1, 1, 3), -2);
        check.due("15: lost there all the same", y.leg(1, 1, 2), 2);
        check.due("15: best above 0", y.leg(1, 2, 3), 0);
    }

    private static void best() {
        ForestLegs x = Forest.fresh();
        int[] times = {45, 50, 60, 40, 60, 40};
        int[] who = {1, 0, 0, 0, 0, 0};
        for (int i = 0; i < 6; i++) {
            check.answered("16: best(0, " + i + ", 0)", x, x.best(0, i, 0), times[i]);
            check.answered("16: best(0, " + i + ", 1)", x, x.best(0, i, 1), who[i]);
        }
        check.due("16: of like ones the least", x.best(1, 2, 1), Forest.DAN);
        check.answered("16: none", x, x.best(2, 0, 0), -2);
        check.answered("16: nobody", x, x.best(2, 1, 1), -2);
        check.refused("16: best(0, 6, 0)", x, x.best(0, 6, 0), 1);
        check.refused("16: best(0, -1, 0)", x, x.best(0, -1, 0), 1);
        check.refused("16: best(3, 0, 0)", x, x.best(3, 0, 0), 1);
        check.refused("16: best(-1, 0, 0)", x, x.best(-1, 0, 0), 1);
        check.refused("16: best(0, 0, 2)", x, x.best(0, 0, 2), 1);
        check.refused("16: best(0, 0, -1)", x, x.best(0, 0, -1), 1);
    }

    private static void leads() {
        ForestLegs x = Forest.fresh();
        int[] want = {Forest.BOB, Forest.ANN, Forest.ANN, Forest.CAT, Forest.ANN, Forest.ANN};
        for (int i = 0; i < 6; i++) {
            check.answered("17: leads(0, " + i + ")", x, x.leads(0, i), want[i]);
        }
        check.due("17: who isn't valid", x.leads(1, 3), Forest.FAY);
        check.answered("17: nobody", x, x.leads(2, 1), -2);
        check.refused("17: leads(0, 6)", x, x.leads(0, 6), 1);
        check.refused("17: leads(0, -1)", x, x.leads(0, -1), 1);
        check.refused("17: leads(3, 0)", x, x.leads(3, 0), 1);
        check.refused("17: leads(-1, 0)", x, x.leads(-1, 0), 1);
    }

    private static void changes() {
        ForestLegs x = Forest.fresh();
        check.answered("18: changes(0)", x, x.changes(0), 3);
        check.answered("18: changes(1)", x, x.changes(1), 1);
        check.answered("18: changes(2)", x, x.changes(2), 0);
        check.refused("18: changes(3)", x, x.changes(3), 1);
        check.refused("18: changes(-1)", x, x.changes(-1), 1);
        // nobody at point 1: neither of both pairs counts
        ForestLegs y = Check.told("course a 1,2,3;runner p a 0 30:1 5,3 20;runner q a 0 25:1 6,3 10");
        check.due("18: one without who leads is none", y.changes(0), 0);
    }

    private static void ranked() {
        ForestLegs x = Forest.fresh();
        check.answered("19: ranked(0, 0)", x, x.ranked(0, 0), Forest.ANN);
        check.answered("19: ranked(0, 1)", x, x.ranked(0, 1), Forest.BOB);
        check.answered("19: ranked(0, 2)", x, x.ranked(0, 2), -2);
        check.answered("19: ranked(0, highest)", x, x.ranked(0, Integer.MAX_VALUE), -2);
        check.due("19: of like ones by numbers", x.ranked(1, 0), Forest.DAN);
        check.due("19: the next of like ones", x.ranked(1, 1), Forest.EVE);
        check.due("19: who isn't valid isn't ranked", x.ranked(1, 2), -2);
        check.answered("19: nobody", x, x.ranked(2, 0), -2);
        check.refused("19: ranked(0, -1)", x, x.ranked(0, -1), 1);
        check.refused("19: ranked(3, 0)", x, x.ranked(3, 0), 1);
        check.refused("19: ranked(-1, 0)", x, x.ranked(-1, 0), 1);
        ForestLegs y = Check.told("course a 1;runner p a 0 9:1 2;runner q a 0 7:1 2;runner s a 0 9:1 2;runner t a 0 8:1 2");
        int[] want = {1, 3, 0, 2};
        for (int i = 0; i < 4; i++) {
            check.due("19: four of them, " + i, y.ranked(0, i), want[i]);
        }
    }
}
