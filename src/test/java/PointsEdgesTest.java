/** Boundary cases of POINTS, SPLITS, LEGS, PLACES, who LEADS, BEST and of promises 14 to 19. */
final class PointsEdgesTest {
    private static final Check check = new Check();
    private static final String TEN = "1,2,3,4,5,6,7,8,9,10";

    public static void main(String[] args) {
        pointsOfEachLength();
        finishIsAlwaysTaken();
        splits();
        legs();
        legTimes();
        placesAtPoints();
        placesOnLegs();
        behindWhoLeads();
        leads();
        best();
        mistakeWhereBestIsNothing();
        changes();
        ranked();
        check.end();
    }

    /** A course z of 1, 2, .. with one runner who takes control i at 10 * (i + 1) and comes in 7 behind the last. */
    private static ForestLegs ofLength(int controls) {
        StringBuilder codes = new StringBuilder();
        StringBuilder punches = new StringBuilder();
        for (int i = 1; i <= controls; i++) {
            codes.append(i == 1 ? "" : ",").append(i);
            punches.append(i == 1 ? ":" : ",").append(i).append(' ').append(10 * i);
        }
        return Check.told("course z " + codes + ";runner p z 0 " + (10 * controls + 7) + punches);
    }

    private static void pointsOfEachLength() {
        check.says("POINTS of a COURSE of n CONTROLS are 0 .. n: CONTROLS, and n the FINISH (always TAKEN, at FINISH)");
        for (int n = 1; n <= 10; n++) {
            ForestLegs x = ofLength(n);
            for (int i = 0; i <= n; i++) {
                check.answered("point " + i + " of " + n, x, x.split(0, i, 0), i < n ? 10 * (i + 1) : 10 * n + 7);
                check.answered("leg " + i + " of " + n, x, x.leg(0, i, 0), i < n ? 10 : 7);
                check.answered("leads at " + i + " of " + n, x, x.leads(0, i), 0);
                check.answered("best of " + i + " of " + n, x, x.best(0, i, 0), i < n ? 10 : 7);
            }
            for (int i : new int[] {-1, n + 1}) {
                check.refused("point " + i + " of " + n, x, x.split(0, i, 0), 1);
                check.refused("leg " + i + " of " + n, x, x.leg(0, i, 0), 1);
                check.refused("leads at " + i + " of " + n, x, x.leads(0, i), 1);
                check.refused("best of " + i + " of " + n, x, x.best(0, i, 0), 1);
                check.refused("without " + i + " of " + n, x, x.without(0, i, 0), 1);
            }
        }
    }

    private static void finishIsAlwaysTaken() {
        check.says("and n the FINISH (always TAKEN, at FINISH)");
        ForestLegs x = Check.told("course a " + TEN + ";course b 1;runner p a 3 20;runner q b 0 9999");
        for (int i = 0; i < 10; i++) {
            check.answered("no punch: point " + i, x, x.split(0, i, 0), -2);
        }
        check.answered("no punch: the finish", x, x.split(0, 10, 0), 17);
        check.answered("no punch: place at the finish", x, x.split(0, 10, 1), 1);
        check.answered("no punch: the leg to the finish", x, x.leg(0, 10, 0), -2);
        check.answered("the greatest split", x, x.split(1, 1, 0), 9999);
        x.finish(0, 21);
        check.due("as the finish is now", x.split(0, 10, 0), 18);
    }

    private static void splits() {
        check.says("SPLIT at a POINT that is TAKEN: its TIME less START");
        ForestLegs x = Check.told("course a 1,2,3;runner p a 5 9:1 5,3 9;runner q a 0 9999:1 0,2 9999,3 9999");
        int[][] due = {{0, -2, 4, 4}, {0, 9999, 9999, 9999}};
        for (int r = 0; r < 2; r++) {
            for (int i = 0; i < 4; i++) {
                check.answered("split(" + r + ", " + i + ", 0)", x, x.split(r, i, 0), due[r][i]);
            }
        }
        check.says("SPLIT at a POINT (what 0), PLACE there (1), behind who LEADS (2); -2: it isn't TAKEN");
        for (int what = 0; what < 3; what++) {
            check.answered("not taken, what " + what, x, x.split(0, 1, what), -2);
        }
        x.start(0, 0);
        check.due("by the start as it is now", x.split(0, 0, 0), 5);
    }

    private static void legs() {
        check.says("LEG i (0 .. n): to POINT i from POINT i - 1 (LEG 0: from START); he HAS it, if both ends are TAKEN");
        // every set of controls that may be missed of four
        for (int missed = 0; missed < 16; missed++) {
            StringBuilder punches = new StringBuilder();
            for (int i = 0; i < 4; i++) {
                if ((missed >> i & 1) == 0) {
                    punches.append(punches.length() == 0 ? ":" : ",").append(i + 1).append(' ').append(10 + i * i);
                }
            }
            ForestLegs x = Check.told("course a 1,2,3,4;runner p a 3 40" + punches);
            int[] times = {3, 10, 11, 14, 19, 40};
            for (int i = 0; i <= 4; i++) {
                boolean has = (i == 0 || (missed >> i - 1 & 1) == 0) && (i == 4 || (missed >> i & 1) == 0);
                check.answered("leg " + i + " without " + missed, x, x.leg(0, i, 0), has ? times[i + 1] - times[i] : -2);
                check.answered("place " + i + " without " + missed, x, x.leg(0, i, 1), has ? 1 : -2);
                check.answered("lost " + i + " without " + missed, x, x.leg(0, i, 2), has ? 0 : -2);
                check.answered("mistake " + i + " without " + missed, x, x.leg(0, i, 3), has ? 0 : -2);
                check.answered("best of " + i + " without " + missed, x, x.best(0, i, 0), has ? times[i + 1] - times[i] : -2);
                check.answered("who is best of " + i + " without " + missed, x, x.best(0, i, 1), has ? 0 : -2);
            }
        }
    }

    private static void legTimes() {
        check.says("LEG TIME: between them");
        ForestLegs x = Check.told("course a 1;runner p a 0 9999:1 0;runner q a 0 9999:1 9999;runner s a 9998 9999:1 9998");
        int[][] due = {{0, 9999}, {9999, 0}, {0, 1}};
        for (int r = 0; r < 3; r++) {
            for (int i = 0; i < 2; i++) {
                check.answered("leg(" + r + ", " + i + ", 0)", x, x.leg(r, i, 0), due[r][i]);
            }
        }
        // a punch that is extra is no end of a leg
        ForestLegs y = Check.told("course a 1,2;runner p a 0 50:1 10,1 20,2 30,2 40");
        int[] legs = {10, 20, 20};
        for (int i = 0; i < 3; i++) {
            check.due("by punches that take a control, leg " + i, y.leg(0, i, 0), legs[i]);
        }
    }

    private static void placesAtPoints() {
        check.says("at a POINT likewise by SPLITS of all RUNNERS of the COURSE, VALID or not, who have it TAKEN");
        // p is first by the clock, not by splits; s isn't valid; t runs another course; u hasn't point 0
        ForestLegs x = Check.told("course a 1,2;course b 1,2;runner p a 0 90:1 20,2 40;runner q a 10 95:1 25,2 50;"
            + "runner s a 20 60:1 30;runner t b 0 30:1 1,2 2;runner u a 0 90:2 39");
        int[][] places = {{3, 2, 3}, {2, 2, 2}, {1, -2, 1}, {1, 1, 1}, {-2, 1, 3}};
        int[][] behind = {{10, 1, 50}, {5, 1, 45}, {0, -2, 0}, {0, 0, 0}, {-2, 0, 50}};
        for (int r = 0; r < 5; r++) {
            for (int i = 0; i < 3; i++) {
                check.answered("place of " + r + " at " + i, x, x.split(r, i, 1), places[r][i]);
                check.answered("behind, of " + r + " at " + i, x, x.split(r, i, 2), behind[r][i]);
            }
        }
        ForestLegs ten = tenRunners(false);
        ForestLegs like = tenRunners(true);
        for (int r = 0; r < 10; r++) {
            check.due("ten of them, " + r, ten.split(r, 0, 1), 10 - r);
            check.due("ten of them, " + r + ", at the finish", ten.split(r, 1, 1), r + 1);
            check.due("ten like ones, " + r, like.split(r, 0, 1), 1);
            check.due("ten of them, " + r + ", behind", ten.split(r, 0, 2), 9 - r);
            check.due("ten like ones, " + r + ", behind", like.split(r, 0, 2), 0);
        }
    }

    /** Ten runners at the only control at 19, 18, .. 10 (or all at 10), at the finish at 40, 41, .. 49. */
    private static ForestLegs tenRunners(boolean like) {
        StringBuilder all = new StringBuilder("course z 1");
        for (int r = 0; r < 10; r++) {
            all.append(";runner ").append((char) ('a' + r)).append(" z 0 ").append(40 + r).append(":1 ").append(like ? 10 : 19 - r);
        }
        return Check.told(all.toString());
    }

    private static void placesOnLegs() {
        check.says("on a LEG likewise by LEG TIMES of those who HAVE it");
        // legs 10 10 10 / 20 5 5 / 1 - - (missed 2) / - - 4 (missed 1) / 0 0 1 on another course
        ForestLegs x = Check.told("course a 1,2;course b 1,2;runner p a 0 30:1 10,2 20;runner q a 0 30:1 20,2 25;"
            + "runner s a 0 30:1 1;runner t a 0 30:2 26;runner u b 0 1:1 0,2 0");
        int[][] places = {{2, 2, 3}, {3, 1, 2}, {1, -2, -2}, {-2, -2, 1}, {1, 1, 1}};
        for (int r = 0; r < 5; r++) {
            for (int i = 0; i < 3; i++) {
                check.answered("place of " + r + " on leg " + i, x, x.leg(r, i, 1), places[r][i]);
            }
        }
        ForestLegs ten = tenRunners(false);
        ForestLegs like = tenRunners(true);
        for (int r = 0; r < 10; r++) {
            check.due("ten of them, " + r, ten.leg(r, 0, 1), 10 - r);
            check.due("ten of them on the last leg, " + r, ten.leg(r, 1, 1), r + 1);
            check.due("ten like ones, " + r, like.leg(r, 0, 1), 1);
        }
    }

    private static void behindWhoLeads() {
        check.says("behind who LEADS (2)");
        ForestLegs x = Check.told("course a 1;runner p a 0 9999:1 9999;runner q a 9 10:1 9");
        check.answered("the most that can be", x, x.split(0, 0, 2), 9999);
        check.answered("who leads", x, x.split(1, 0, 2), 0);
        check.answered("at the finish", x, x.split(0, 1, 2), 9998);
        x.drop(1, 0);
        check.answered("who leads then", x, x.split(0, 0, 2), 0);
    }

    private static void leads() {
        check.says("LEADS at a POINT: who has the least SPLIT there, of like ones the least RUNNER");
        ForestLegs x = tenRunners(true);
        check.answered("of ten like ones the least", x, x.leads(0, 0), 0);
        for (int r = 0; r < 9; r++) {
            x.drop(r, 0);
            check.answered("then the next, behind " + r, x, x.leads(0, 0), r + 1);
        }
        check.answered("who isn't valid leads at the finish", x, x.leads(0, 1), 0);
        check.says("Who LEADS at a POINT; -2: it is TAKEN by none");
        x.drop(9, 0);
        check.answered("taken by none", x, x.leads(0, 0), -2);
        check.answered("the finish is taken still", x, x.leads(0, 1), 0);
        ForestLegs y = Check.told("course a 1;course b 1;runner p b 0 9:1 5");
        check.answered("no runner of it", y, y.leads(0, 0), -2);
        check.answered("no runner of it, the finish", y, y.leads(0, 1), -2);
        check.answered("the other course", y, y.leads(1, 0), 0);
        y.move(0, 0);
        check.answered("he is of it now", y, y.leads(0, 1), 0);
        check.answered("and not of the other one", y, y.leads(1, 1), -2);
    }

    private static void best() {
        check.says("the least LEG TIME of RUNNERS of it who HAVE it, of like ones of the least RUNNER");
        ForestLegs x = tenRunners(true);
        for (int r = 0; r < 9; r++) {
            check.answered("of like ones the least, " + r, x, x.best(0, 0, 1), r);
            check.answered("best, " + r, x, x.best(0, 0, 0), 10);
            x.drop(r, 0);
        }
        check.due("one who has it is left", x.best(0, 0, 1), 9);
        check.says("BEST of a LEG: it (what 0), the RUNNER (1); -2: none HAS it");
        x.drop(9, 0);
        for (int i = 0; i < 2; i++) {
            check.answered("none has it, leg " + i, x, x.best(0, i, 0), -2);
            check.answered("none has it, leg " + i + ", who", x, x.best(0, i, 1), -2);
        }
        ForestLegs y = Check.told("course a 1;runner p a 0 9:1 0;runner q a 0 9:1 0");
        check.answered("a best of 0 is one", y, y.best(0, 0, 0), 0);
        check.answered("a best of 0 is somebody's", y, y.best(0, 0, 1), 0);
        ForestLegs z = Check.told("course a 1;course b 1;runner p b 0 9:1 0;runner q a 0 9:1 7");
        check.due("not of another course", z.best(0, 0, 0) * 10 + z.best(0, 0, 1), 71);
        ForestLegs u = Check.told("course a 1;course b 1;runner p b 0 9:1 0");
        check.answered("no runner of it", u, u.best(0, 0, 0), -2);
    }

    private static void mistakeWhereBestIsNothing() {
        check.says("LEG TIME (what 0), PLACE on the LEG (1), LOST (2), MISTAKE (3; -2 also where BEST is 0); -2: he hasn't it");
        ForestLegs x = Check.told("slack 0;course a 1,2;runner p a 0 90:1 0,2 10;runner q a 0 90:1 30,2 45");
        check.answered("best is 0, he is the best", x, x.leg(0, 0, 3), -2);
        check.answered("best is 0, he isn't", x, x.leg(1, 0, 3), -2);
        check.answered("lost is told there", x, x.leg(1, 0, 2), 30);
        check.answered("place is told there", x, x.leg(1, 0, 1), 2);
        // best 0 10 45, q 30 15 45: paces 3/2 1, the lesser 1
        check.answered("best is above 0", x, x.leg(1, 1, 3), 5);
        x.add(0, 1, 1);
        x.drop(0, 0);
        check.answered("best is 1 now", x, x.leg(0, 0, 3), 0);
        ForestLegs y = Check.told("course a 1;runner p a 0 9");
        for (int what = 0; what < 4; what++) {
            check.answered("he hasn't it, what " + what, y, y.leg(0, 0, what), -2);
            check.answered("nor the last one, what " + what, y, y.leg(0, 1, what), -2);
        }
    }

    private static void changes() {
        check.says("How often of two POINTS one behind the other somebody else LEADS at the second than at the first");
        // two who lead in turn at all eleven points
        StringBuilder p = new StringBuilder("runner p a 0 201:");
        StringBuilder q = new StringBuilder("runner q a 0 200:");
        for (int i = 0; i < 10; i++) {
            p.append(i == 0 ? "" : ",").append(i + 1).append(' ').append(10 * i + 5 + i % 2);
            q.append(i == 0 ? "" : ",").append(i + 1).append(' ').append(10 * i + 6 - i % 2);
        }
        ForestLegs x = Check.told("course a " + TEN + ";" + p + ";" + q);
        check.answered("nine times, and the same one at the finish", x, x.changes(0), 9);
        x.finish(0, 199);
        check.answered("ten times", x, x.changes(0), 10);
        x.finish(0, 200);
        check.answered("like ones at the finish: the least", x, x.changes(0), 10);
        x.finish(0, 201);
        check.answered("nine times again", x, x.changes(0), 9);
        ForestLegs one = Check.told("course a 1;runner p a 0 9:1 5");
        check.answered("one who leads throughout", one, one.changes(0), 0);
        ForestLegs two = Check.told("course a 1;runner p a 0 9:1 5;runner q a 0 8:1 6");
        check.answered("one control: at the finish", two, two.changes(0), 1);
        check.says("(both with one who LEADS)");
        // nobody at point 1: p leads at 0, q at 2 and at the finish
        ForestLegs y = Check.told("course a 1,2,3;runner p a 0 30:1 5,3 20;runner q a 0 25:1 6,3 10");
        check.answered("nobody leads between", y, y.changes(0), 0);
        y.add(1, 2, 7);
        check.answered("then somebody does", y, y.changes(0), 1);
        ForestLegs none = Check.told("course a 1");
        check.answered("no runner", none, none.changes(0), 0);
        ForestLegs z = Check.told("course a 1,2;runner p a 0 9;runner q a 0 8");
        check.answered("only the finish is taken", z, z.changes(0), 0);
    }

    private static void ranked() {
        check.says("The i-th VALID RUNNER of a COURSE (0: the first) by TOTAL, of like ones by numbers; -2 there are not so many");
        StringBuilder all = new StringBuilder("course z 1;course y 1");
        int[] finish = {60, 50, 60, 40, 50, 70, 40, 60, 30, 70};
        for (int r = 0; r < 10; r++) {
            all.append(";runner ").append((char) ('a' + r)).append(" z 0 ").append(finish[r]).append(":1 5");
        }
        ForestLegs x = Check.told(all.toString());
        int[] due = {8, 3, 6, 1, 4, 0, 2, 7, 5, 9};
        for (int i = 0; i < 10; i++) {
            check.answered("ranked(0, " + i + ")", x, x.ranked(0, i), due[i]);
            check.answered("ranked(1, " + i + ")", x, x.ranked(1, i), -2);
        }
        for (int i : new int[] {10, 11, 32, Integer.MAX_VALUE}) {
            check.answered("ranked(0, " + i + ")", x, x.ranked(0, i), -2);
        }
        for (int i : new int[] {-1, -2, Integer.MIN_VALUE}) {
            check.refused("ranked(0, " + i + ")", x, x.ranked(0, i), 1);
        }
        x.drop(3, 0);
        check.due("one who isn't valid goes", x.ranked(0, 1), 6);
        check.due("and there are but nine", x.ranked(0, 9), -2);
        x.move(8, 1);
        check.due("another one is of another course", x.ranked(0, 0), 6);
        check.due("there he is the first", x.ranked(1, 0), 8);
    }
}
