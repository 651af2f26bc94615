/** Promises 20 to 27: lost, worst, pace, mistakes, clean, cleanPlace, without, hardest. */
final class LostTest {
    private static final Check check = new Check();

    public static void main(String[] args) {
        lostAndWorst();
        pace();
        mistakesAndClean();
        roundingAndSlack();
        cleanPlace();
        without();
        hardest();
        check.end();
    }

    private static void lostAndWorst() {
        ForestLegs x = Forest.fresh();
        int[] lost = {5, 35, 50, 0, 0, 0};
        int[] worst = {0, 3, 5, 0, 0, -2};
        for (int r = 0; r < 6; r++) {
            check.answered("20: lost(" + r + ")", x, x.lost(r), lost[r]);
            check.answered("21: worst(" + r + ")", x, x.worst(r), worst[r]);
        }
        check.refused("20: lost(6)", x, x.lost(6), 1);
        check.refused("20: lost(-1)", x, x.lost(-1), 1);
        check.refused("21: worst(6)", x, x.worst(6), 1);
        check.refused("21: worst(-1)", x, x.worst(-1), 1);
        ForestLegs y = Check.told("course a 1,2,3;runner p a 0 40:1 10,2 20,3 30;runner q a 0 60:1 10,2 25,3 40;"
            + "runner s a 0 60:2 25,3 35");
        check.due("21: of like ones the first", y.worst(1), 3);
        check.due("21: of legs that he has", y.worst(2), 3);
        check.due("20: of legs that he has", y.lost(2), 15);
        y.finish(1, 45);
        check.due("21: of three like ones the first", y.worst(1), 1);
        ForestLegs z = Check.told("course a 1,2,3;runner p a 0 40:2 20,3 30");
        check.due("21: the first leg that he has, if none is lost on", z.worst(0), 2);
    }

    private static void pace() {
        ForestLegs x = Forest.fresh();
        int[][] want = {{1, 1}, {1, 1}, {11, 9}, {1, 1}, {1, 1}};
        for (int r = 0; r < 5; r++) {
            check.answered("22: pace(" + r + ", 0)", x, x.pace(r, 0), want[r][0]);
            check.answered("22: pace(" + r + ", 1)", x, x.pace(r, 1), want[r][1]);
        }
        check.refused("22: pace of none", x, x.pace(Forest.FAY, 0), 6);
        check.refused("22: pace of none", x, x.pace(Forest.FAY, 1), 6);
        check.refused("22: what goes ahead of none", x, x.pace(Forest.FAY, 2), 1);
        check.refused("22: pace(0, 2)", x, x.pace(0, 2), 1);
        check.refused("22: pace(0, -1)", x, x.pace(0, -1), 1);
        check.refused("22: pace(6, 0)", x, x.pace(6, 0), 1);
        check.refused("22: pace(-1, 0)", x, x.pace(-1, 0), 1);
        // legs of p 10 20 30, of q 12 20 45: 6/5, 1, 3/2
        ForestLegs y = Check.told("course a 1,2;runner p a 0 60:1 10,2 30;runner q a 0 77:1 12,2 32");
        check.due("22: the middle one of three", y.pace(1, 0) * 100 + y.pace(1, 1), 605);
        ForestLegs z = Check.told("course a 1,2;runner p a 0 9:1 0,2 0;runner q a 0 27:1 4,2 5");
        check.due("22: legs of best 0 don't count", z.pace(1, 0) * 100 + z.pace(1, 1), 2209);
        ForestLegs w = Check.told("course a 1;runner p a 0 9:1 9;runner q a 0 5:1 0");
        check.refused("22: all of best 0", w, w.pace(0, 0), 6);
        // eleven legs, best 10 each; those of q 16 10 10 10 10 11 12 13 14 15 15, the middle of them 12
        ForestLegs u = Check.told("slack 3;course a 1,2,3,4,5,6,7,8,9,10;"
            + "runner p a 0 110:1 10,2 20,3 30,4 40,5 50,6 60,7 70,8 80,9 90,10 100;"
            + "runner q a 0 136:1 16,2 26,3 36,4 46,5 56,6 67,7 79,8 92,9 106,10 121");
        check.due("22: the middle one of eleven", u.pace(1, 0) * 100 + u.pace(1, 1), 605);
        check.due("23: the first and the last leg", u.mistakes(1), 1 + 512 + 1024);
        check.due("24: without them", u.clean(1), 136 - 4 - 3 - 3);
        check.due("27: the hardest leg is the first", u.hardest(0, 0) * 100 + u.hardest(0, 1), 6);
        u.finish(1, 138);
        check.due("27: the hardest leg is the last", u.hardest(0, 0) * 100 + u.hardest(0, 1), 1007);
        check.due("21: the worst leg is the last", u.worst(1), 10);
        // 9999 to 9998 and back is as large as it can be
        ForestLegs v = Check.told("course a 1;runner p a 0 9998:1 9997;runner q a 0 9999:1 9998");
        check.due("22: large ones", v.pace(1, 0) + v.pace(1, 1), 2);
        check.due("22: of an even number the lesser", v.leg(1, 0, 2), 1);
    }

    private static void mistakesAndClean() {
        ForestLegs x = Forest.fresh();
        int[] bits = {0, 24, 32, 0, 0, 0};
        int[] clean = {300, 300, 319, 150, 150, 100};
        for (int r = 0; r < 6; r++) {
            check.answered("23: mistakes(" + r + ")", x, x.mistakes(r), bits[r]);
            check.answered("24: clean(" + r + ")", x, x.clean(r), clean[r]);
        }
        x.become(1, 11);
        check.due("23: slack just reached", x.mistakes(2), 32);
        check.due("23: slack not reached", x.mistakes(1), 8);
        check.due("24: slack not reached", x.clean(1), 310);
        x.become(1, 12);
        check.due("23: slack not reached by one", x.mistakes(2), 0);
        check.due("24: slack not reached by one", x.clean(2), 330);
        check.refused("23: mistakes(6)", x, x.mistakes(6), 1);
        check.refused("23: mistakes(-1)", x, x.mistakes(-1), 1);
        check.refused("24: clean(6)", x, x.clean(6), 1);
        check.refused("24: clean(-1)", x, x.clean(-1), 1);
    }

    private static void roundingAndSlack() {
        // best 10 5 10, q 15 8 20: paces 3/2 8/5 2, the middle 8/5: due 16 8 16
        ForestLegs x = Check.told("slack 0;course a 1,2;runner p a 0 25:1 10,2 15;runner q a 0 43:1 15,2 23");
        check.due("pace", x.pace(1, 0) * 10 + x.pace(1, 1), 85);
        check.due("15: less than due", x.leg(1, 0, 3), 0);
        check.due("15: slack 0, and just due", x.leg(1, 1, 3), 0);
        check.due("15: slack 0", x.leg(1, 2, 3), 4);
        check.due("23: slack 0, and just due", x.mistakes(1), 4);
        ForestLegs t = Check.told("slack 0;course a 1,2;runner p a 0 3:1 1,2 2;runner q a 0 4:1 1,2 2");
        check.due("15: best 1, and one more", t.leg(1, 2, 3), 1);
        check.due("23: a mistake of 1", t.mistakes(1), 4);
        check.due("24: a mistake of 1", t.clean(1), 3);
        // best 10 5 10, q 15 8 15: paces 3/2 8/5 3/2, the middle 3/2: due 15 7 (of 7.5) 15
        ForestLegs y = Check.told("slack 1;course a 1,2;runner p a 0 25:1 10,2 15;runner q a 0 38:1 15,2 23");
        check.due("pace", y.pace(1, 0) * 10 + y.pace(1, 1), 32);
        check.due("15: of two as near the lesser", y.leg(1, 1, 3), 1);
        // best 3 4 3 100, q 4 8 4 300: paces 4/3 2 4/3 3, the lesser of both 4/3: due of 4 is 5 (5.33)
        ForestLegs z = Check.told("slack 1;course a 1,2,3;runner p a 0 110:1 3,2 7,3 10;runner q a 0 316:1 4,2 12,3 16");
        check.due("pace", z.pace(1, 0) * 10 + z.pace(1, 1), 43);
        check.due("15: down to the nearest", z.leg(1, 1, 3), 3);
        check.due("15: of 133.33", z.leg(1, 3, 3), 167);
        // best 3 5 3 100, q 5 10 5 300: 5/3 2 5/3 3: due of 5 is 8 (8.33), of 100 it is 167 (166.67)
        ForestLegs w = Check.told("slack 1;course a 1,2,3;runner p a 0 111:1 3,2 8,3 11;runner q a 0 320:1 5,2 15,3 20");
        check.due("15: up to the nearest", w.leg(1, 3, 3), 133);
        check.due("15: down to the nearest", w.leg(1, 1, 3), 2);
    }

    private static void cleanPlace() {
        ForestLegs x = Forest.fresh();
        int[] want = {1, 1, -2, 1, 1, -2};
        for (int r = 0; r < 6; r++) {
            check.answered("25: cleanPlace(" + r + ", 0)", x, x.cleanPlace(r, 0), want[r]);
            check.answered("25: cleanPlace(" + r + ", 1)", x, x.cleanPlace(r, 1), want[r]);
        }
        check.refused("25: cleanPlace(0, 2)", x, x.cleanPlace(0, 2), 1);
        check.refused("25: cleanPlace(0, -1)", x, x.cleanPlace(0, -1), 1);
        check.refused("25: cleanPlace(6, 0)", x, x.cleanPlace(6, 0), 1);
        check.refused("25: cleanPlace(-1, 0)", x, x.cleanPlace(-1, 0), 1);
        check.refused("25: what goes ahead of not valid", x, x.cleanPlace(2, 2), 1);
        x.become(1, 15);
        // bob's CLEAN is 310, then ann is ahead of him; ann's is her TOTAL
        check.due("25: behind a lesser total", x.cleanPlace(1, 0), 2);
        check.due("25: behind a lesser clean", x.cleanPlace(1, 1), 2);
        // totals 100 110 130, legs 20 30 50 / 20 60 30 / 20 30 80: best 20 30 30
        ForestLegs y = Check.told("slack 10;course a 1,2;runner p a 0 100:1 20,2 50;runner q a 0 110:1 20,2 80;"
            + "runner s a 0 130:1 20,2 50");
        check.due("25: clean of p", y.clean(0), 80);
        check.due("25: clean of q", y.clean(1), 80);
        check.due("25: clean of s", y.clean(2), 80);
        check.due("25: totals of the others as they are", y.cleanPlace(2, 0), 1);
        y.become(1, 21);
        // now p keeps 100, q is clean in 80, s in 80
        check.due("25: clean of p with more slack", y.clean(0), 100);
        check.due("25: p behind nobody's total", y.cleanPlace(0, 0), 1);
        check.due("25: p behind two clean ones", y.cleanPlace(0, 1), 3);
    }

    private static void without() {
        ForestLegs x = Forest.fresh();
        int[] want = {250, 250, 240, 260, 240, 260};
        for (int i = 0; i < 6; i++) {
            check.answered("26: without(0, " + i + ", 0)", x, x.without(0, i, 0), Forest.ANN);
            check.answered("26: without(0, " + i + ", 1)", x, x.without(0, i, 1), want[i]);
        }
        check.due("26: of like ones the least", x.without(1, 0, 0), Forest.DAN);
        check.due("26: not one who isn't valid", x.without(1, 0, 1), 110);
        check.answered("26: nobody", x, x.without(2, 0, 0), -2);
        check.answered("26: nobody's total", x, x.without(2, 1, 1), -2);
        check.refused("26: without(0, 6, 0)", x, x.without(0, 6, 0), 1);
        check.refused("26: without(0, -1, 0)", x, x.without(0, -1, 0), 1);
        check.refused("26: without(3, 0, 0)", x, x.without(3, 0, 0), 1);
        check.refused("26: without(-1, 0, 0)", x, x.without(-1, 0, 0), 1);
        check.refused("26: without(0, 0, 2)", x, x.without(0, 0, 2), 1);
        check.refused("26: without(0, 0, -1)", x, x.without(0, 0, -1), 1);
        ForestLegs y = Check.told("course a 1;runner p a 0 30:1 10;runner q a 0 40:1 25");
        check.due("26: another one is first", y.without(0, 0, 0), 1);
        check.due("26: his total", y.without(0, 0, 1), 15);
        check.due("26: the first one is first", y.without(0, 1, 0), 0);
    }

    private static void hardest() {
        ForestLegs x = Forest.fresh();
        check.answered("27: hardest(0, 0)", x, x.hardest(0, 0), 4);
        check.answered("27: hardest(0, 1)", x, x.hardest(0, 1), 25);
        check.answered("27: nothing lost", x, x.hardest(1, 0), 0);
        check.answered("27: nothing lost", x, x.hardest(1, 1), 0);
        check.answered("27: none", x, x.hardest(2, 0), -2);
        check.answered("27: none", x, x.hardest(2, 1), -2);
        check.refused("27: hardest(3, 0)", x, x.hardest(3, 0), 1);
        check.refused("27: hardest(-1, 0)", x, x.hardest(-1, 0), 1);
        check.refused("27: hardest(0, 2)", x, x.hardest(0, 2), 1);
        check.refused("27: hardest(0, -1)", x, x.hardest(0, -1), 1);
        ForestLegs y = Check.told("course a 1,2;runner p a 0 30:1 10,2 20;runner q a 0 40:1 10,2 25");
        check.due("27: of like ones the first", y.hardest(0, 0), 1);
        check.due("27: how much", y.hardest(0, 1), 5);
        ForestLegs z = Check.told("course a 1,2;runner p a 0 30;runner q a 0 30:1 5");
        check.due("27: only legs that somebody has", z.hardest(0, 0), 0);
        z.drop(1, 0);
        check.due("27: runners, but none has any", z.hardest(0, 0), -2);
    }
}
