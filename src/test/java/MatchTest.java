/** Promises 11 to 13: misses, fits, missed; and MATCH behind them. */
final class MatchTest {
    private static final Check check = new Check();

    public static void main(String[] args) {
        misses();
        fits();
        missed();
        whichPunchCounts();
        check.end();
    }

    private static void misses() {
        ForestLegs x = Forest.fresh();
        int[][] want = {{0, 1, 1}, {0, 1, 1}, {1, 2, 1}, {3, 0, 1}, {3, 0, 1}, {5, 3, 1}};
        for (int r = 0; r < 6; r++) {
            for (int c = 0; c < 3; c++) {
                check.answered("11: misses(" + r + ", " + c + ")", x, x.misses(r, c), want[r][c]);
            }
        }
        check.due("11: it changes nothing", Check.state(x), Check.state(Forest.fresh()));
        check.refused("11: misses(6, 0)", x, x.misses(6, 0), 1);
        check.refused("11: misses(-1, 0)", x, x.misses(-1, 0), 1);
        check.refused("11: misses(0, 3)", x, x.misses(0, 3), 1);
        check.refused("11: misses(0, -1)", x, x.misses(0, -1), 1);
    }

    private static void fits() {
        ForestLegs x = Forest.fresh();
        int[] want = {0, 0, 0, 1, 1, 2};
        for (int r = 0; r < 6; r++) {
            check.answered("12: fits(" + r + ")", x, x.fits(r), want[r]);
        }
        check.refused("12: fits(6)", x, x.fits(6), 1);
        check.refused("12: fits(-1)", x, x.fits(-1), 1);
        ForestLegs y = Check.told("course a 1,2;course b 1,2,3;course d 1,2,4;"
            + "runner p a 0 9:1 1,2 2,3 3,4 4;runner q a 0 9:1 1,2 2;runner s a 0 9:1 1,2 2,4 4");
        check.due("12: of like ones the longest, then the least", y.fits(0), 1);
        check.due("12: the fewest missed go first", y.fits(1), 0);
        check.due("12: the longest", y.fits(2), 2);
    }

    private static void missed() {
        ForestLegs x = Forest.fresh();
        int[] want = {0, 0, 4, 0, 0, 7};
        for (int r = 0; r < 6; r++) {
            check.answered("13: missed(" + r + ")", x, x.missed(r), want[r]);
        }
        check.refused("13: missed(6)", x, x.missed(6), 1);
        check.refused("13: missed(-1)", x, x.missed(-1), 1);
        ForestLegs y = Check.told("course a 1,2,3,4,5,6,7,8,9,10;runner p a 0 9;runner q a 0 9:2 5,9 6");
        check.due("13: all ten", y.missed(0), 1023);
        check.due("13: all but two", y.missed(1), 1023 - 2 - 256);
    }

    /** takes: of each PUNCH the CONTROL, or -2. */
    private static void match(String codes, String punches, int... takes) {
        ForestLegs x = Check.told("course a " + codes + ";runner p a 0 99:" + punches);
        for (int k = 0; k < takes.length; k++) {
            check.due("match of " + punches + " on " + codes + ", punch " + k, x.punch(0, k, 2), takes[k]);
        }
    }

    private static void whichPunchCounts() {
        match("1,2", "1 1,1 2,2 3,2 4", 0, -2, 1, -2);
        match("1,2,3", "3 1,1 2,2 3", -2, 0, 1);
        // taking control 0 by the only 1 would leave only one
        match("1,2,3", "2 1,3 2,1 3", 1, 2, -2);
        // two are taken with control 1 or with control 2: that which takes control 1
        match("1,2,3", "1 1,3 2,2 3", 0, -2, 1);
        match("1,2,3", "1 1,2 2,1 3,3 4", 0, 1, -2, 2);
        match("1,2,1", "1 1", 0);
        match("1,2,1", "2 1,1 2", 1, 2);
        match("1,2,1", "1 1,1 2", 0, 2);
        // three are taken with control 0 or without it: that which takes it, by a later punch
        match("1,2,1,2", "2 1,1 2,2 3,1 4", -2, 0, 1, 2);
        match("1,2,1,2", "1 1,1 2,2 3,2 4", 0, -2, 1, 3);
        match("1,2,1,2", "1 1,2 1,2 1,1 1,2 1", 0, 1, -2, 2, 3);
        match("5", "4 1,5 2,5 3", -2, 0, -2);
        // sixteen punches, ten controls
        match("1,2,3", "2 1,3 2" + Check.repeat(",9 3", 14), 1, 2, -2);
        match("1,2,3", "9 1,9 1" + Check.repeat(",9 3", 12) + ",2 4,3 5", -2, -2, -2, -2, -2, -2, -2, -2, -2, -2, -2, -2, -2, -2, 1, 2);
        match("1,2,3,4,5,6,7,8,9,10", "9 1,1 1,2 1,9 1,3 1,4 1,9 1,5 1,6 1,7 1,7 1,8 1,9 1,9 1,10 1,9 1",
            -2, 0, 1, -2, 2, 3, -2, 4, 5, 6, -2, 7, 8, -2, 9, -2);
    }
}
