/** Promises 28 to 36: packs, pack, together, alone, chase, team, mate, passes, crowd. */
final class WithWhomTest {
    private static final Check check = new Check();

    public static void main(String[] args) {
        packs();
        packsAtEdges();
        together();
        alone();
        chase();
        team();
        mate();
        passes();
        crowd();
        check.end();
    }

    private static void pack(ForestLegs x, int code, int k, int... want) {
        for (int what = 0; what < 4; what++) {
            check.answered("29: pack(" + code + ", " + k + ", " + what + ")", x, x.pack(code, k, what), want[what]);
        }
    }

    private static void packs() {
        ForestLegs x = Forest.fresh();
        check.answered("28: packs(31)", x, x.packs(31), 1);
        check.answered("28: packs(40)", x, x.packs(40), 2);
        check.answered("28: packs(32)", x, x.packs(32), 2);
        check.answered("28: packs(33)", x, x.packs(33), 1);
        check.answered("28: packs(35), an extra one aside", x, x.packs(35), 1);
        check.answered("28: packs(99)", x, x.packs(99), 0);
        check.answered("28: packs(1)", x, x.packs(1), 0);
        check.refused("28: packs(0)", x, x.packs(0), 2);
        check.refused("28: packs(100)", x, x.packs(100), 2);
        check.refused("28: packs(-1)", x, x.packs(-1), 2);
        pack(x, 31, 0, 4, 1 + 2 + 8 + 16, 40, 55);
        pack(x, 31, 1, -2, -2, -2, -2);
        pack(x, 40, 0, 2, 1 + 2, 100, 110);
        pack(x, 40, 1, 3, 1 + 2 + 4, 200, 230);
        pack(x, 40, 2, -2, -2, -2, -2);
        pack(x, 32, 0, 2, 8 + 16, 90, 95);
        pack(x, 32, 1, 2, 1 + 2, 160, 170);
        pack(x, 33, 0, 2, 2 + 4, 290, 300);
        pack(x, 35, 0, 2, 8 + 16, 120, 125);
        pack(x, 99, Integer.MAX_VALUE, -2, -2, -2, -2);
        check.refused("29: pack(31, -1, 0)", x, x.pack(31, -1, 0), 1);
        check.refused("29: pack(31, 0, 4)", x, x.pack(31, 0, 4), 1);
        check.refused("29: pack(31, 0, -1)", x, x.pack(31, 0, -1), 1);
        check.refused("29: pack(0, 0, 0)", x, x.pack(0, 0, 0), 2);
        check.refused("29: pack(100, 0, 0)", x, x.pack(100, 0, 0), 2);
        check.refused("29: k goes ahead of the code", x, x.pack(0, -1, 0), 1);
        check.refused("29: what goes ahead of the code", x, x.pack(0, 0, 4), 1);
    }

    private static void packsAtEdges() {
        // one runner alone can be a pack; like times
        ForestLegs x = Check.told("gap 5;course a 1,2,1;course b 2,1;runner p a 0 99:1 10,2 12,1 15;"
            + "runner q b 0 99:2 12,1 21;runner s a 0 99:1 15,2 30,1 36");
        check.due("28: codes of two courses", x.packs(1), 1);
        pack(x, 1, 0, 3, 1 + 4, 10, 15);
        pack(x, 2, 0, 2, 1 + 2, 12, 12);
        x.become(0, 6);
        pack(x, 1, 0, 4, 1 + 2 + 4, 10, 21);
        x.become(0, 0);
        pack(x, 1, 0, 2, 1 + 4, 15, 15);
        check.due("28: gap 0", x.packs(1), 1);
        x.become(0, 600);
        pack(x, 1, 0, 5, 1 + 2 + 4, 10, 36);
        ForestLegs y = Check.told("gap 5;course a 1,2,1;runner p a 0 99:1 10,2 12,1 15");
        pack(y, 1, 0, 2, 1, 10, 15);
    }

    private static void together() {
        ForestLegs x = Forest.fresh();
        int[][] want = {{0, 1, 7}, {0, 2, 8}, {1, 2, 56}, {3, 4, 15}, {3, 5, 8}, {4, 5, 8}};
        for (int[] row : want) {
            check.answered("30: together(" + row[0] + ", " + row[1] + ")", x, x.together(row[0], row[1]), row[2]);
            check.answered("30: together(" + row[1] + ", " + row[0] + ")", x, x.together(row[1], row[0]), row[2]);
        }
        x.become(0, 14);
        check.due("30: gap less by one", x.together(1, 2), 48);
        check.refused("30: one runner", x, x.together(1, 1), 5);
        check.refused("30: not one course", x, x.together(0, 3), 5);
        check.refused("30: together(6, 6)", x, x.together(6, 6), 1);
        check.refused("30: together(0, 6)", x, x.together(0, 6), 1);
        check.refused("30: together(-1, 0)", x, x.together(-1, 0), 1);
    }

    private static void alone() {
        ForestLegs x = Forest.fresh();
        int[] want = {48, 0, 3, 0, 0, 0};
        for (int r = 0; r < 6; r++) {
            check.answered("31: alone(" + r + ")", x, x.alone(r), want[r]);
        }
        check.refused("31: alone(6)", x, x.alone(6), 1);
        check.refused("31: alone(-1)", x, x.alone(-1), 1);
        x.move(Forest.DAN, 2);
        check.due("31: the only one of a course, at points that are taken", x.alone(Forest.DAN), 2);
    }

    private static void chase(ForestLegs x, int r, int q, int... want) {
        for (int what = 0; what < 3; what++) {
            check.answered("32: chase(" + r + ", " + q + ", " + what + ")", x, x.chase(r, q, what), want[what]);
            check.answered("32: chase(" + q + ", " + r + ", " + what + ")", x, x.chase(q, r, what), want[what]);
        }
    }

    private static void chase() {
        ForestLegs x = Forest.fresh();
        chase(x, 0, 1, 3, 0, 0);
        chase(x, 0, 2, 1, 3, 0);
        chase(x, 1, 2, 3, 3, 1);
        chase(x, 3, 4, 4, 0, 3);
        x.become(0, 0);
        chase(x, 0, 1, -2, -2, -2);
        check.refused("32: chase(0, 1, 3)", x, x.chase(0, 1, 3), 1);
        check.refused("32: chase(0, 1, -1)", x, x.chase(0, 1, -1), 1);
        check.refused("32: what goes ahead of one runner", x, x.chase(0, 0, 3), 1);
        check.refused("32: one runner", x, x.chase(0, 0, 0), 5);
        check.refused("32: not one course", x, x.chase(0, 3, 0), 5);
        check.refused("32: chase(6, 0, 0)", x, x.chase(6, 0, 0), 1);
        check.refused("32: chase(0, -1, 0)", x, x.chase(0, -1, 0), 1);
        // together at 0 and 2, 3; then the greater number is ahead; then like times
        ForestLegs y = Check.told("gap 1;course a 1,2,3;runner p a 0 50:1 10,2 20,3 30;runner q a 0 49:1 10,2 25,3 30");
        chase(y, 0, 1, 2, 2, 1);
        y.finish(1, 50);
        chase(y, 0, 1, 2, 2, 0);
        y.finish(1, 90);
        // of two of length 1 the first
        chase(y, 0, 1, 1, 0, 0);
    }

    private static void team() {
        ForestLegs x = Forest.fresh();
        int[][] want = {{0, 1, 295}, {0, 2, 300}, {1, 2, 330}, {3, 4, 150}, {3, 5, 150}, {4, 5, 150}};
        for (int[] row : want) {
            check.answered("33: team(" + row[0] + ", " + row[1] + ")", x, x.team(row[0], row[1]), row[2]);
            check.answered("33: team(" + row[1] + ", " + row[0] + ")", x, x.team(row[1], row[0]), row[2]);
        }
        x.move(Forest.FAY, 0);
        check.answered("33: none", x, x.team(Forest.CAT, Forest.FAY), -2);
        check.refused("33: one runner", x, x.team(0, 0), 5);
        check.refused("33: not one course", x, x.team(0, 3), 5);
        check.refused("33: team(6, 6)", x, x.team(6, 6), 1);
        check.refused("33: team(-1, 0)", x, x.team(-1, 0), 1);
        ForestLegs y = Check.told("course a 1,2,3;runner p a 0 50:1 10,2 20;runner q a 0 60:2 30,3 35");
        check.due("33: each has what the other hasn't", y.team(0, 1), 10 + 10 + 5 + 25);
        ForestLegs z = Check.told("course a 1;runner p a 0 50:1 0;runner q a 0 60:1 30");
        check.due("33: a leg time of 0 is one", z.team(0, 1), 30);
    }

    private static void mate() {
        ForestLegs x = Forest.fresh();
        int[] want = {1, 0, 0, 4, 3, 3};
        for (int r = 0; r < 6; r++) {
            check.answered("34: mate(" + r + ")", x, x.mate(r), want[r]);
        }
        x.move(Forest.DAN, 2);
        check.answered("34: nobody else", x, x.mate(Forest.DAN), -2);
        x.drop(Forest.EVE, 1);
        check.answered("34: no team", x, x.mate(Forest.EVE), -2);
        check.refused("34: mate(6)", x, x.mate(6), 1);
        check.refused("34: mate(-1)", x, x.mate(-1), 1);
    }

    private static void passes() {
        ForestLegs x = Forest.fresh();
        check.answered("35: bob comes by cat", x, x.passes(Forest.BOB, Forest.CAT), 1);
        check.answered("35: a point missed between", x, x.passes(Forest.CAT, Forest.BOB), 0);
        check.answered("35: never", x, x.passes(Forest.ANN, Forest.BOB), 0);
        check.refused("35: one runner", x, x.passes(0, 0), 5);
        check.refused("35: not one course", x, x.passes(0, 3), 5);
        check.refused("35: passes(6, 6)", x, x.passes(6, 6), 1);
        check.refused("35: passes(0, -1)", x, x.passes(0, -1), 1);
        ForestLegs y = Check.told("course a 1,2,3,4;runner p a 0 50:1 10,2 20,3 30,4 40;runner q a 0 49:1 9,2 21,3 29,4 40");
        check.due("35: once", y.passes(0, 1), 1);
        check.due("35: once, then with like times between", y.passes(1, 0), 1);
    }

    private static void crowd() {
        ForestLegs x = Forest.fresh();
        check.answered("36: crowd(0)", x, x.crowd(0), 6);
        check.answered("36: crowd(1)", x, x.crowd(1), 60);
        check.refused("36: crowd(2)", x, x.crowd(2), 1);
        check.refused("36: crowd(-1)", x, x.crowd(-1), 1);
        ForestLegs y = Check.told("course a 1;runner p a 10 20;runner q a 20 30;runner s a 5 10;runner t a 7 8;runner u a 25 26");
        check.due("36: the finish doesn't count", y.crowd(0), 2);
        check.due("36: the first such time", y.crowd(1), 7);
        y.finish(0, 21);
        check.due("36: still the first", y.crowd(1), 7);
        y.start(3, 4);
        y.finish(3, 5);
        check.due("36: then the next", y.crowd(1), 20);
        ForestLegs z = Check.told("course a 1");
        check.refused("36: no runner", z, z.crowd(0), 6);
        check.refused("36: what goes ahead of no runner", z, z.crowd(2), 1);
    }
}
