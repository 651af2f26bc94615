/** Boundary cases of LOST, PACE, DUE, MISTAKE, CLEAN, RELAID and of promises 20 to 27. */
final class LostEdgesTest {
    private static final Check check = new Check();

    public static void main(String[] args) {
        lost();
        worst();
        middleOfEachNumber();
        middleBySize();
        legsThatCount();
        noPace();
        lowestTerms();
        due();
        greatestDue();
        mistakeAndSlack();
        mistakes();
        clean();
        cleanPlace();
        without();
        hardest();
        check.end();
    }

    /** A runner of course a whose legs have these times. */
    private static String runner(String name, int start, int... legs) {
        StringBuilder row = new StringBuilder();
        int time = start;
        for (int i = 0; i < legs.length; i++) {
            time += legs[i];
            if (i < legs.length - 1) {
                row.append(i == 0 ? ":" : ",").append(i + 1).append(' ').append(time);
            }
        }
        return ";runner " + name + " a " + start + " " + time + row;
    }

    private static String course(int legs) {
        StringBuilder row = new StringBuilder("course a 1");
        for (int i = 2; i < legs; i++) {
            row.append(',').append(i);
        }
        return row.toString();
    }

    /** Runner 0 with the first legs, runner 1 with the others. */
    private static ForestLegs two(int slack, int[] first, int... second) {
        return Check.told("slack " + slack + ";" + course(first.length) + runner("p", 0, first) + runner("q", 0, second));
    }

    private static int[] row(int... values) {
        return values;
    }

    private static void pace(String what, ForestLegs x, int r, int above, int below) {
        check.answered(what + ": above", x, x.pace(r, 0), above);
        check.answered(what + ": below", x, x.pace(r, 1), below);
    }

    private static void lost() {
        check.says("All LOST of a RUNNER on LEGS that he HAS together");
        ForestLegs x = Check.told("course a 1,2;runner p a 0 30:1 10,2 20;runner q a 0 9999:1 5000,2 5000;runner s a 0 30;"
            + "runner t a 0 50:2 10;runner u a 0 50:1 15");
        int[] due = {10, 4990 + 4989, 0, 30, 5};
        for (int r = 0; r < 5; r++) {
            check.answered("lost(" + r + ")", x, x.lost(r), due[r]);
        }
        check.says("LOST on a LEG: LEG TIME less BEST");
        int[] legs = {4990, 0, 4989};
        for (int i = 0; i < 3; i++) {
            check.answered("lost of q on " + i, x, x.leg(1, i, 2), legs[i]);
        }
        ForestLegs y = Check.told("course a 1;course b 1;runner p a 0 30:1 10;runner q b 0 2:1 1");
        check.due("another course doesn't count", y.lost(0), 0);
        ForestLegs z = Check.told("course a 1;runner p a 0 9999:1 9999;runner q a 0 9999:1 0");
        check.due("the most that can be lost on one leg", z.lost(0), 9999);
    }

    private static void worst() {
        check.says("The LEG on which a RUNNER LOST most, of like ones the first; -2: he HAS none");
        for (int most = 0; most < 11; most++) {
            int[] best = new int[11];
            int[] legs = new int[11];
            for (int i = 0; i < 11; i++) {
                best[i] = 10;
                legs[i] = i == most ? 14 : i < most ? 13 : 14;
            }
            check.due("the first of those that lose 4", two(0, best, legs).worst(1), most);
        }
        ForestLegs x = Check.told("course a 1,2;runner p a 0 9;runner q a 0 9:1 5;runner s a 0 9:2 5;runner t a 0 20:2 9");
        int[] due = {-2, 0, 2, 2};
        for (int r = 0; r < 4; r++) {
            check.answered("worst(" + r + ")", x, x.worst(r), due[r]);
        }
        ForestLegs y = Check.told("course a 1,2,3;runner p a 0 40:2 10,3 20");
        check.due("nothing lost: the first that he has", y.worst(0), 2);
    }

    private static void middleOfEachNumber() {
        check.says("of these the middle one by size (of an even number the lesser of both)");
        for (int legs = 2; legs <= 11; legs++) {
            int[] best = new int[legs];
            int[] times = new int[legs];
            for (int i = 0; i < legs; i++) {
                best[i] = 13;
                // 0, 1, .. in another order: 7 and 3 have no divisor in common with the number of legs that each is used for
                times[i] = 13 + i * (legs == 7 ? 3 : 7) % legs;
            }
            int above = 13 + (legs - 1) / 2;
            ForestLegs x = two(0, best, times);
            pace(legs + " legs", x, 1, above == 13 ? 1 : above, above == 13 ? 1 : 13);
            if (legs > 2) {
                // the first leg goes with the first control, and with it the second one: two legs less
                x.drop(1, 0);
                int[] rest = java.util.Arrays.stream(times).skip(2).sorted().toArray();
                int middle = rest[(rest.length - 1) / 2];
                pace(legs + " legs, two of them not had", x, 1, middle % 13 == 0 ? middle / 13 : middle, middle % 13 == 0 ? 1 : 13);
            }
        }
    }

    private static void middleBySize() {
        check.says("LEG TIME by BEST; of these the middle one by size");
        // 11/10, 3, 2: neither the times nor the bests have that order
        pace("of three", two(0, row(100, 10, 20), 110, 30, 40), 1, 2, 1);
        // 3/2 of different terms, 1 and 2
        pace("alike", two(0, row(2, 4, 10, 10), 3, 6, 10, 20), 1, 3, 2);
        // 101/100 and 100/99: they differ by 1 in 9,900
        pace("near each other", two(0, row(100, 99), 101, 100), 1, 101, 100);
        pace("near each other, the other way", two(0, row(99, 100), 100, 101), 1, 101, 100);
        // 4000/3999 is below 3999/3998
        pace("large ones", two(0, row(3998, 3999), 3999, 4000), 1, 4000, 3999);
        pace("the best one of all", two(0, row(3998, 3999), 3999, 4000), 0, 1, 1);
    }

    private static void legsThatCount() {
        check.says("PACE of a RUNNER: of LEGS that he HAS, of which BEST is above 0");
        // bests 0 0 10: only the last leg counts
        pace("best is 0", two(0, row(0, 0, 10), 5, 6, 17), 1, 17, 10);
        pace("he is the best of them himself", two(0, row(0, 0, 10), 5, 6, 17), 0, 1, 1);
        // best 1: 6/1 and 7/1 come in
        pace("best is 1", two(0, row(0, 1, 10), 5, 6, 20), 1, 2, 1);
        pace("best is 1 on all", two(0, row(1, 1, 1), 5, 6, 7), 1, 6, 1);
        // he has leg 0 alone
        ForestLegs x = Check.told("course a 1,2" + runner("p", 0, 10, 10, 10) + ";runner q a 0 90:1 15");
        pace("one leg", x, 1, 3, 2);
        // the last one alone
        ForestLegs y = Check.told("course a 1,2" + runner("p", 0, 10, 10, 10) + ";runner q a 0 90:2 76");
        pace("the last leg alone", y, 1, 7, 5);
    }

    private static void noPace() {
        check.says("none without any");
        ForestLegs x = Check.told("slack 0;course a 1,2;runner p a 0 9;runner q a 0 9:1 0;runner s a 0 20:1 5");
        for (int what = 0; what < 2; what++) {
            check.refused("he has no leg", x, x.pace(0, what), 6);
            check.refused("best of the only one is 0, his own", x, x.pace(1, what), 6);
            check.refused("best of the only one is 0, another's", x, x.pace(2, what), 6);
        }
        for (int r = 0; r < 3; r++) {
            check.answered("no mistakes of " + r, x, x.mistakes(r), 0);
            check.answered("clean of " + r + " is his total", x, x.clean(r), r == 2 ? 20 : 9);
        }
        x.drop(1, 0);
        pace("the best is another's now", x, 2, 1, 1);
    }

    private static void lowestTerms() {
        check.says("PACE in lowest terms: above (what 0), below (1)");
        pace("1", two(0, row(7, 7), 7, 7), 1, 1, 1);
        pace("a whole", two(0, row(7, 7), 21, 21), 1, 3, 1);
        pace("by 2", two(0, row(8, 8), 10, 10), 1, 5, 4);
        pace("by 60", two(0, row(60, 60), 120, 90), 1, 3, 2);
        pace("none", two(0, row(8, 8), 9, 9), 1, 9, 8);
        pace("the greatest", two(0, row(1, 1), 4999, 5000), 1, 4999, 1);
        pace("the greatest of one leg", two(0, row(0, 1), 0, 9999), 1, 9999, 1);
        pace("great ones", two(0, row(0, 9998), 0, 9999), 1, 9999, 9998);
        pace("great ones by 1111", two(0, row(0, 8888), 0, 9999), 1, 9, 8);
        // numbers that need the most steps
        pace("4181 by 2584", two(0, row(0, 2584), 0, 4181), 1, 4181, 2584);
        pace("6765 by 4181", two(0, row(0, 4181), 0, 6765), 1, 6765, 4181);
    }

    private static void due() {
        check.says("DUE on such a LEG: PACE times BEST, to the nearest, of two as near the lesser");
        // pace 3/2 by legs 0 and 2; best 5: 7.5 is as near to 7 as to 8
        check.due("a half goes down", two(1, row(10, 5, 10), 15, 8, 15).leg(1, 1, 3), 1);
        check.due("just as due then", two(1, row(10, 5, 10), 15, 7, 15).leg(1, 1, 3), 0);
        check.due("a half of one goes down", two(0, row(10, 1, 10), 15, 2, 15).leg(1, 1, 3), 1);
        // pace 5/3: best 1: 1.67, best 2: 3.33, best 4: 6.67
        check.due("a third goes down", two(0, row(3, 2, 3), 5, 4, 5).leg(1, 1, 3), 1);
        check.due("two thirds go up", two(0, row(3, 4, 3), 5, 8, 5).leg(1, 1, 3), 1);
        check.due("two thirds go up, and that is due", two(0, row(3, 4, 3), 5, 7, 5).leg(1, 1, 3), 0);
        // pace 7/5: best 3: 4.2, best 4: 5.6
        check.due("a fifth goes down", two(0, row(5, 3, 5), 7, 5, 7).leg(1, 1, 3), 1);
        check.due("three fifths go up", two(0, row(5, 4, 5), 7, 7, 7).leg(1, 1, 3), 1);
        // pace 9/8: best 4: 4.5, best 12: 13.5, best 20: 22.5
        for (int best = 4; best <= 20; best += 8) {
            int low = (9 * best - 4) / 8;
            check.due("a half with an even divisor, best " + best, two(0, row(8, best, 8), 9, low + 5, 9).leg(1, 1, 3), 5);
        }
        // pace 11/10: best 14: 15.4, best 16: 17.6
        check.due("four tenths go down", two(0, row(10, 14, 10), 11, 20, 11).leg(1, 1, 3), 5);
        check.due("six tenths go up", two(0, row(10, 16, 10), 11, 20, 11).leg(1, 1, 3), 2);
        check.due("due on his own middle leg is his time", two(0, row(10, 14, 10), 11, 20, 11).leg(1, 0, 3), 0);
    }

    private static void greatestDue() {
        check.says("DUE on such a LEG: PACE times BEST");
        // paces 3000, 3000 and 3500/3000; due of the last one is 9,000,000
        ForestLegs x = two(0, row(1, 1, 3000), 3000, 3000, 3500);
        pace("great", x, 1, 3000, 1);
        check.answered("far below due", x, x.leg(1, 2, 3), 0);
        check.answered("no mistake", x, x.mistakes(1), 0);
        check.answered("nothing to take off", x, x.clean(1), 9500);
        // 3333/2222 is 3/2; 3332/3331 of 3333 is 3334
        ForestLegs y = two(0, row(3331, 3333), 3332, 3334);
        pace("near 1", y, 1, 3334, 3333);
        check.due("3334/3333 of 3331 is 3332", y.leg(1, 0, 3), 0);
    }

    private static void mistakeAndSlack() {
        check.says("MISTAKE on such a LEG: LEG TIME less DUE, if that is slack or more and above 0; else 0");
        // pace 1; the last leg is late by that much
        for (int slack : new int[] {0, 1, 2, 20, 599, 600}) {
            for (int late : new int[] {0, 1, 2, 19, 20, 21, 598, 599, 600, 601, 9000}) {
                ForestLegs x = two(slack, row(10, 10, 10), 10, 10, 10 + late);
                int due = late >= slack && late > 0 ? late : 0;
                check.answered("slack " + slack + ", late by " + late, x, x.leg(1, 2, 3), due);
                check.answered("bits of that", x, x.mistakes(1), due > 0 ? 4 : 0);
                check.answered("clean of that", x, x.clean(1), 30 + late - due);
            }
        }
        // 20 without
        ForestLegs y = Check.told(course(3) + runner("p", 0, 10, 10, 10) + runner("q", 0, 10, 10, 29) + runner("s", 0, 10, 10, 30));
        check.due("19 behind due", y.leg(1, 2, 3), 0);
        check.due("20 behind due", y.leg(2, 2, 3), 20);
        check.says("gap (what 0), slack (1) is v (0 .. 600)");
        y.become(1, 19);
        check.due("slack is 19", y.leg(1, 2, 3), 19);
        y.become(1, 21);
        check.due("slack is 21", y.leg(2, 2, 3), 0);
        y.become(1, 0);
        check.due("slack is 0: just due", y.leg(1, 0, 3), 0);
        // pace 2 by legs 0 and 1: the last leg is faster than due
        ForestLegs z = two(0, row(10, 10, 10), 20, 20, 10);
        check.due("faster than due", z.leg(1, 2, 3), 0);
        check.due("nothing is put on", z.clean(1), 50);
    }

    private static void mistakes() {
        check.says("LEGS with a MISTAKE above 0, as bits");
        for (int wrong = 0; wrong < 11; wrong++) {
            int[] best = new int[11];
            int[] times = new int[11];
            java.util.Arrays.fill(best, 10);
            java.util.Arrays.fill(times, 10);
            times[wrong] = 31;
            ForestLegs x = two(20, best, times);
            check.answered("leg " + wrong, x, x.mistakes(1), 1 << wrong);
            check.answered("clean without leg " + wrong, x, x.clean(1), 110);
        }
        // as many as there can be: of eleven the middle one and what is above it
        ForestLegs y = two(0, row(10, 10, 10, 10, 10, 10, 10, 10, 10, 10, 10), 10, 10, 10, 10, 10, 10, 11, 12, 13, 14, 15);
        check.answered("five of eleven", y, y.mistakes(1), 64 + 128 + 256 + 512 + 1024);
        check.answered("clean without five", y, y.clean(1), 110);
        check.answered("none of the best one", y, y.mistakes(0), 0);
        ForestLegs z = Check.told("slack 0;course a 1,2;runner p a 0 9;runner q a 0 30:1 5,2 10");
        check.answered("he has no leg", z, z.mistakes(0), 0);
    }

    private static void clean() {
        check.says("CLEAN: TOTAL less all his MISTAKES");
        ForestLegs x = Check.told("slack 0;course a 1,2,3" + runner("p", 0, 10, 10, 10, 10) + runner("q", 5, 10, 12, 10, 13)
            + ";runner s a 0 60:1 10,2 22;runner t a 0 7");
        int[] due = {40, 40, 60 - 2, 7};
        for (int r = 0; r < 4; r++) {
            check.answered("clean(" + r + ")", x, x.clean(r), due[r]);
        }
        check.due("also of one who isn't valid", x.runner(2, 7), 0);
        ForestLegs y = two(0, row(1, 1, 1), 1, 1, 9997);
        check.answered("nearly all of it", y, y.clean(1), 3);
    }

    private static void cleanPlace() {
        check.says("PLACE that a VALID RUNNER would have by his CLEAN, all others' TOTALS as they are (what 0), "
            + "theirs CLEAN, too (1); -2: not VALID");
        // totals 31 30 45 38 60; s is late by 15, t (pace 11/10) by 6; v isn't valid; w runs another course
        ForestLegs x = Check.told("slack 5;course a 1,2;course b 1" + runner("p", 0, 10, 10, 11) + runner("q", 0, 10, 10, 10)
            + runner("s", 0, 10, 10, 25) + runner("t", 0, 17, 10, 11) + runner("u", 0, 20, 20, 20)
            + ";runner v a 0 5;runner w b 0 2:1 1");
        int[] clean = {31, 30, 30, 32, 60, 5, 2};
        int[] first = {2, 1, 1, 3, 5, -2, 1};
        int[] second = {3, 1, 1, 4, 5, -2, 1};
        for (int r = 0; r < 7; r++) {
            check.answered("clean(" + r + ")", x, x.clean(r), clean[r]);
            check.answered("cleanPlace(" + r + ", 0)", x, x.cleanPlace(r, 0), first[r]);
            check.answered("cleanPlace(" + r + ", 1)", x, x.cleanPlace(r, 1), second[r]);
        }
        StringBuilder all = new StringBuilder("slack 0;course a 1");
        for (int r = 0; r < 10; r++) {
            all.append(runner(String.valueOf((char) ('b' + r)), 0, 20, 20 + r));
        }
        ForestLegs ten = Check.told(all.toString());
        for (int r = 0; r < 10; r++) {
            // pace is the lesser of 1 and more: all come down to 40
            check.due("ten of them by totals, " + r, ten.cleanPlace(r, 0), 1);
            check.due("ten of them, all clean, " + r, ten.cleanPlace(r, 1), 1);
        }
        ten.become(1, 600);
        for (int r = 0; r < 10; r++) {
            check.due("ten of them without mistakes by totals, " + r, ten.cleanPlace(r, 0), r + 1);
            check.due("ten of them without mistakes, " + r, ten.cleanPlace(r, 1), r + 1);
        }
    }

    private static void without() {
        check.says("The VALID RUNNER of the least TOTAL, were a COURSE RELAID without a LEG, of like ones the least (what 0), "
            + "that TOTAL (1); -2: there is none");
        // q is not valid and would be the first; p and s are alike without leg 0
        ForestLegs x = Check.told("course a 1,2" + runner("p", 0, 20, 10, 10) + ";runner q a 0 5:1 1" + runner("s", 0, 30, 10, 10)
            + runner("t", 0, 10, 15, 15));
        int[] who = {0, 3, 3};
        int[] total = {20, 25, 25};
        for (int leg = 0; leg < 3; leg++) {
            check.answered("without " + leg, x, x.without(0, leg, 0), who[leg]);
            check.answered("total without " + leg, x, x.without(0, leg, 1), total[leg]);
        }
        ForestLegs y = Check.told("course a 1;course b 1;runner p a 0 9;runner q b 0 9:1 9;runner s b 0 9:1 0");
        for (int leg = 0; leg < 2; leg++) {
            for (int what = 0; what < 2; what++) {
                check.answered("none is valid", y, y.without(0, leg, what), -2);
            }
        }
        check.answered("a total of 0", y, y.without(1, 0, 1), 0);
        check.answered("who has it", y, y.without(1, 0, 0), 1);
        check.answered("without the last leg", y, y.without(1, 1, 0), 2);
        check.answered("a total of 0 without the last leg", y, y.without(1, 1, 1), 0);
        ForestLegs z = Check.told("course a 1");
        check.answered("no runner", z, z.without(0, 0, 0), -2);
        check.answered("no runner's total", z, z.without(0, 1, 1), -2);
        check.says("A COURSE is RELAID without a LEG: TOTALS less that LEG's TIME (of VALID RUNNERS)");
        int[] legs = {1, 2, 3, 4, 5, 6, 7, 8, 9, 10, 11};
        ForestLegs u = Check.told(course(11) + runner("p", 7, legs));
        for (int leg = 0; leg < 11; leg++) {
            check.answered("without " + leg + " of eleven", u, u.without(0, leg, 1), 66 - legs[leg]);
        }
    }

    private static void hardest() {
        check.says("The LEG of a COURSE on which most was LOST by all who HAVE it together, of like ones the first (what 0), "
            + "how much (1); -2: none HAS any");
        for (int most = 0; most < 11; most++) {
            int[] best = new int[11];
            int[] times = new int[11];
            for (int i = 0; i < 11; i++) {
                best[i] = 10;
                times[i] = i < most ? 13 : 14;
            }
            ForestLegs x = two(0, best, times);
            check.answered("the first of like ones", x, x.hardest(0, 0), most);
            check.answered("how much", x, x.hardest(0, 1), 4);
        }
        // one loses 9 on leg 1, three lose 4 each on leg 0; one who isn't valid counts where he has the leg
        ForestLegs y = Check.told("course a 1,2;course b 1,2" + runner("p", 0, 10, 10, 10) + runner("q", 0, 14, 19, 10)
            + runner("s", 0, 14, 10, 10) + ";runner t a 0 40:1 14;runner u b 0 900:1 500,2 501");
        check.answered("by all together", y, y.hardest(0, 0), 0);
        check.answered("how much by all together", y, y.hardest(0, 1), 12);
        check.answered("nothing lost at all", y, y.hardest(1, 0), 0);
        check.answered("nothing lost at all, how much", y, y.hardest(1, 1), 0);
        y.drop(3, 0);
        y.drop(2, 0);
        check.answered("then another one", y, y.hardest(0, 0), 1);
        check.answered("then another one, how much", y, y.hardest(0, 1), 9);
        // each of three loses on another leg: 7 by the first, 6 by the second, 5 by the last
        ForestLegs each = Check.told(course(3) + runner("p", 0, 17, 10, 10) + runner("q", 0, 10, 16, 10) + runner("s", 0, 10, 10, 15)
            + runner("t", 0, 10, 10, 10));
        for (int leg = 0; leg < 3; leg++) {
            check.answered("the hardest of three", each, each.hardest(0, 0), leg);
            check.answered("the hardest of three, how much", each, each.hardest(0, 1), 7 - leg);
            each.drop(leg, 0);
            each.drop(leg, 0);
        }
        ForestLegs z = Check.told("course a 1,2;course b 1;runner p a 0 9;runner q a 0 9");
        for (int c = 0; c < 2; c++) {
            for (int what = 0; what < 2; what++) {
                check.answered("none has any, course " + c, z, z.hardest(c, what), -2);
            }
        }
        z.add(0, 2, 5);
        check.answered("the last leg is the only one", z, z.hardest(0, 0), 2);
        check.answered("nothing lost on it", z, z.hardest(0, 1), 0);
    }
}
