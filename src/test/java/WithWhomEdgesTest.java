/** Boundary cases of PACKS, TOGETHER, CHASE, TEAM and of promises 28 to 38. */
final class WithWhomEdgesTest {
    private static final Check check = new Check();
    private static final String TEN = "1,2,3,4,5,6,7,8,9,10";

    public static void main(String[] args) {
        gapOfPacks();
        twoOrMore();
        takenOnes();
        likeTimesInPacks();
        packsInOrder();
        mostPunchesOfPacks();
        codesOfPacks();
        together();
        pointsOfTogether();
        alone();
        chase();
        chaseFirstOfLikeOnes();
        whoIsFirst();
        team();
        mate();
        passes();
        crowd();
        over();
        common();
        check.end();
    }

    private static void pack(ForestLegs x, int code, int k, int... want) {
        for (int what = 0; what < 4; what++) {
            check.answered("pack(" + code + ", " + k + ", " + what + ")", x, x.pack(code, k, what), want[what]);
        }
    }

    private static void noPack(ForestLegs x, int code, int k) {
        pack(x, code, k, -2, -2, -2, -2);
    }

    private static void gapOfPacks() {
        check.says("one goes on with the PACK of the one ahead, if it is gap or less behind that");
        for (int gap : new int[] {0, 1, 10, 599, 600}) {
            for (int apart : new int[] {0, 1, 2, 9, 10, 11, 598, 599, 600, 601, 9000}) {
                ForestLegs x = Check.told("gap " + gap + ";course a 7;runner p a 0 9999:7 5;runner q a 0 9999:7 " + (5 + apart));
                check.answered("gap " + gap + ", apart " + apart, x, x.packs(7), apart <= gap ? 1 : 0);
                if (apart <= gap) {
                    pack(x, 7, 0, 2, 3, 5, 5 + apart);
                } else {
                    noPack(x, 7, 0);
                }
            }
        }
        // 10 without a gap
        ForestLegs y = Check.told("course a 7;runner p a 0 99:7 5;runner q a 0 99:7 15;runner s a 0 99:7 26");
        pack(y, 7, 0, 2, 3, 5, 15);
        // behind the one ahead, not behind the first
        y.add(2, 7, 25);
        y.drop(2, 1);
        pack(y, 7, 0, 3, 7, 5, 25);
        y.become(0, 9);
        check.answered("none is near enough", y, y.packs(7), 0);
        check.says("gap (what 0), slack (1) is v (0 .. 600)");
        y.become(0, 600);
        pack(y, 7, 0, 3, 7, 5, 25);
    }

    private static void twoOrMore() {
        check.says("those of two PUNCHES or more, numbered from 0");
        ForestLegs x = Check.told("gap 1;course a 7;runner p a 0 99:7 5");
        check.answered("one", x, x.packs(7), 0);
        noPack(x, 7, 0);
        check.answered("none", x, x.packs(8), 0);
        noPack(x, 8, 0);
        ForestLegs none = Check.told("course a 7");
        check.answered("no runner", none, none.packs(7), 0);
        // alone, two, alone, three, alone
        ForestLegs y = Check.told("gap 1;course a 7;runner b a 0 99:7 1;runner c a 0 99:7 10;runner d a 0 99:7 11;"
            + "runner e a 0 99:7 20;runner f a 0 99:7 30;runner g a 0 99:7 31;runner h a 0 99:7 32;runner i a 0 99:7 40");
        check.answered("two of them", y, y.packs(7), 2);
        pack(y, 7, 0, 2, 2 + 4, 10, 11);
        pack(y, 7, 1, 3, 16 + 32 + 64, 30, 32);
        check.says("Of PACK k at a CODE 0 how many PUNCHES, 1 RUNNERS (bits), 2 the first TIME, 3 the last one; -2 there are not so many");
        noPack(y, 7, 2);
        noPack(y, 7, 3);
        noPack(y, 7, Integer.MAX_VALUE);
        for (int k : new int[] {-1, Integer.MIN_VALUE}) {
            check.refused("pack " + k, y, y.pack(7, k, 0), 1);
        }
        // one runner who comes there twice
        ForestLegs z = Check.told("gap 10;course a 7,8,7;runner p a 0 99:7 5,8 9,7 15");
        pack(z, 7, 0, 2, 1, 5, 15);
        check.due("but not at the other code", z.packs(8), 0);
    }

    private static void takenOnes() {
        check.says("PACKS at a CODE: all PUNCHES of it that are TAKEN");
        // q punches 7 though it isn't on his course; s punches it twice
        ForestLegs x = Check.told("gap 3;course a 7;course b 8;runner p a 0 99:7 5;runner q b 0 99:7 6;runner s a 0 99:7 20,7 21");
        check.answered("extra ones don't count", x, x.packs(7), 0);
        x.move(1, 0);
        pack(x, 7, 0, 2, 3, 5, 6);
        x.recode(0, 0, 9);
        check.answered("not on the course any more", x, x.packs(7), 0);
        x.undo();
        check.answered("on it again", x, x.packs(7), 1);
        x.add(0, 7, 4);
        pack(x, 7, 0, 2, 3, 4, 6);
        // an extra one between is no bridge
        ForestLegs y = Check.told("gap 3;course a 7;runner p a 0 99:7 5;runner q a 0 99:7 5,7 8;runner s a 0 99:7 9");
        pack(y, 7, 0, 2, 3, 5, 5);
    }

    private static void likeTimesInPacks() {
        check.says("by TIME (of like ones by RUNNERS, then by places)");
        ForestLegs x = Check.told("gap 0;course a 7,8,7;course b 7;runner p a 0 99:7 5,8 5,7 5;runner q b 0 99:7 5;runner s b 0 99:7 6");
        pack(x, 7, 0, 3, 3, 5, 5);
        noPack(x, 7, 1);
        ForestLegs y = Check.told("gap 1;course a 7;runner p a 0 99:7 9;runner q a 0 99:7 8;runner s a 0 99:7 7");
        pack(y, 7, 0, 3, 7, 7, 9);
    }

    private static void packsInOrder() {
        check.says("those of two PUNCHES or more, numbered from 0");
        // told from the last to the first
        StringBuilder all = new StringBuilder("gap 1;course z 7");
        for (int r = 0; r < 10; r++) {
            all.append(";runner ").append((char) ('a' + r)).append(" z 0 99:7 ").append(50 - r / 2 * 10);
        }
        ForestLegs x = Check.told(all.toString());
        check.answered("five packs", x, x.packs(7), 5);
        for (int k = 0; k < 5; k++) {
            pack(x, 7, k, 2, 3 << 8 - 2 * k, 10 + 10 * k, 10 + 10 * k);
        }
        noPack(x, 7, 5);
    }

    /** Ten runners who take 1 and 2 five times each, runner r at 1000 * i + r * apart. */
    private static ForestLegs hundred(int apart) {
        StringBuilder all = new StringBuilder("gap 0;course z 1,2,1,2,1,2,1,2,1,2");
        for (int r = 0; r < 10; r++) {
            all.append(";runner ").append((char) ('a' + r)).append(" z 0 9999");
        }
        ForestLegs x = Check.told(all.toString());
        for (int r = 0; r < 10; r++) {
            for (int i = 0; i < 10; i++) {
                x.add(r, 1 + i % 2, 900 * i + r * apart);
            }
        }
        return x;
    }

    private static void mostPunchesOfPacks() {
        check.says("PACKS at a CODE: all PUNCHES of it that are TAKEN, by TIME");
        ForestLegs x = hundred(0);
        check.due("all are valid", x.about(5), 10);
        for (int code = 1; code <= 2; code++) {
            check.answered("five packs", x, x.packs(code), 5);
            for (int k = 0; k < 5; k++) {
                pack(x, code, k, 10, 1023, 1800 * k + 900 * (code - 1), 1800 * k + 900 * (code - 1));
            }
            noPack(x, code, 5);
        }
        ForestLegs y = hundred(180);
        y.become(0, 180);
        // 0, 180, .. 1620, 1800, ..: all fifty in one
        pack(y, 1, 0, 50, 1023, 0, 8820);
        check.answered("one pack of fifty", y, y.packs(1), 1);
        y.become(0, 179);
        check.answered("none with a gap less by one", y, y.packs(1), 0);
    }

    private static void codesOfPacks() {
        check.says("How many PACKS there are at a CODE (1 .. 99)");
        ForestLegs x = Check.told("course a 1,99;runner p a 0 99:1 5,99 6;runner q a 0 99:1 5,99 6");
        int[] due = {1, 0, 0, 1};
        int[] codes = {1, 2, 98, 99};
        for (int i = 0; i < 4; i++) {
            check.answered("packs(" + codes[i] + ")", x, x.packs(codes[i]), due[i]);
        }
        for (int code : new int[] {0, 100, -1, Integer.MIN_VALUE, Integer.MAX_VALUE}) {
            check.refused("packs(" + code + ")", x, x.packs(code), 2);
            check.refused("pack(" + code + ", 0, 0)", x, x.pack(code, 0, 0), 2);
            check.refused("pack(" + code + ", -1, 0)", x, x.pack(code, -1, 0), 1);
            check.refused("pack(" + code + ", 0, 4)", x, x.pack(code, 0, 4), 1);
        }
    }

    private static void together() {
        check.says("TOGETHER are two RUNNERS of one COURSE at a POINT, if both have it TAKEN, at TIMES gap or less apart");
        for (int gap : new int[] {0, 1, 10, 599, 600}) {
            for (int apart : new int[] {0, 1, 2, 9, 10, 11, 598, 599, 600, 601, 9000}) {
                ForestLegs x = Check.told("gap " + gap + ";course a 7;runner p a 0 9999:7 5;runner q a 0 9998:7 " + (5 + apart));
                int due = (apart <= gap ? 1 : 0) + (gap >= 1 ? 2 : 0);
                check.answered("gap " + gap + ", apart " + apart, x, x.together(0, 1), due);
                check.answered("the other way round", x, x.together(1, 0), due);
            }
        }
        // by times, not by splits; both have to have it taken
        ForestLegs y = Check.told("gap 1;course a 1,2,3;runner p a 0 90:1 10,2 20;runner q a 9 99:1 19,2 20;runner s a 0 90:2 20,3 30");
        check.answered("like splits aren't enough", y, y.together(0, 1), 2);
        check.answered("one has missed it", y, y.together(0, 2), 2 + 8);
        check.answered("the other has missed it", y, y.together(1, 2), 2);
    }

    private static void pointsOfTogether() {
        check.says("POINTS at which two RUNNERS are TOGETHER, as bits");
        for (int apart = 0; apart < 11; apart++) {
            StringBuilder p = new StringBuilder();
            StringBuilder q = new StringBuilder();
            for (int i = 0; i < 10; i++) {
                p.append(i == 0 ? ":" : ",").append(i + 1).append(' ').append(10 * i);
                q.append(i == 0 ? ":" : ",").append(i + 1).append(' ').append(10 * i + (i == apart ? 1 : 0));
            }
            ForestLegs x = Check.told("gap 0;course a " + TEN + ";runner p a 0 200" + p + ";runner q a 0 " + (apart == 10 ? 201 : 200) + q);
            check.answered("all but " + apart, x, x.together(0, 1), 2047 - (1 << apart));
            check.answered("alone at " + apart, x, x.alone(0), 1 << apart);
            x.become(0, 1);
            check.answered("all", x, x.together(0, 1), 2047);
            check.answered("nowhere alone", x, x.alone(1), 0);
        }
        ForestLegs y = Check.told("gap 0;course a 1;runner p a 0 9;runner q a 0 8");
        check.answered("nowhere", y, y.together(0, 1), 0);
    }

    private static void alone() {
        check.says("POINTS that a RUNNER has TAKEN at which he is TOGETHER with nobody, as bits");
        ForestLegs x = Check.told("gap 5;course a 1,2;course b 1,2;runner p a 0 90:1 10,2 20;runner q a 0 80:1 15,2 26;"
            + "runner s a 0 86:2 25;runner t b 0 90:1 10,2 20");
        int[] due = {0, 4, 0, 7};
        for (int r = 0; r < 4; r++) {
            check.answered("alone(" + r + ")", x, x.alone(r), due[r]);
        }
        x.become(0, 4);
        int[] less = {3, 1 + 4, 0, 7};
        for (int r = 0; r < 4; r++) {
            check.answered("alone(" + r + ") with a gap less by one", x, x.alone(r), less[r]);
        }
        ForestLegs y = Check.told("gap 600;course a " + TEN + ";runner p a 0 90:10 5");
        check.answered("the only runner", y, y.alone(0), 512 + 1024);
        y.drop(0, 0);
        check.answered("only the finish is taken", y, y.alone(0), 1024);
    }

    private static void chase(ForestLegs x, int... want) {
        for (int what = 0; what < 3; what++) {
            check.answered("chase(0, 1, " + what + ")", x, x.chase(0, 1, what), want[what]);
            check.answered("chase(1, 0, " + what + ")", x, x.chase(1, 0, what), want[what]);
        }
    }

    /** Two runners of four controls; they are together at those POINTS whose bits are set. */
    private static ForestLegs apart(int bits) {
        StringBuilder p = new StringBuilder();
        StringBuilder q = new StringBuilder();
        for (int i = 0; i < 4; i++) {
            p.append(i == 0 ? ":" : ",").append(i + 1).append(' ').append(10 * i);
            q.append(i == 0 ? ":" : ",").append(i + 1).append(' ').append(10 * i + ((bits >> i & 1) == 1 ? 3 : 4));
        }
        int finish = (bits >> 4 & 1) == 1 ? 53 : 54;
        return Check.told("gap 3;course a 1,2,3,4;runner p a 0 50" + p + ";runner q a 0 " + finish + q);
    }

    private static void chase() {
        check.says("CHASE of two: the longest row of POINTS one behind another at which they are TOGETHER, of like ones the first");
        for (int bits = 0; bits < 32; bits++) {
            ForestLegs x = apart(bits);
            check.due("together", x.together(0, 1), bits);
            int length = 0;
            int first = 0;
            for (int i = 0; i < 5; i++) {
                for (int j = i; j < 5; j++) {
                    int row = (1 << j + 1) - (1 << i);
                    if ((bits & row) == row && j - i + 1 > length) {
                        length = j - i + 1;
                        first = i;
                    }
                }
            }
            if (length == 0) {
                chase(x, -2, -2, -2);
            } else {
                chase(x, length, first, 0);
            }
        }
        check.says("CHASE: how many POINTS (what 0), the first one (1), who is there first at its last POINT (2; of like TIMES the least); "
            + "-2 there is none");
        chase(apart(0), -2, -2, -2);
        chase(apart(31), 5, 0, 0);
    }

    private static void chaseFirstOfLikeOnes() {
        check.says("of like ones the first");
        StringBuilder p = new StringBuilder();
        StringBuilder q = new StringBuilder();
        for (int i = 0; i < 10; i++) {
            p.append(i == 0 ? ":" : ",").append(i + 1).append(' ').append(10 * i);
            q.append(i == 0 ? ":" : ",").append(i + 1).append(' ').append(10 * i + (i == 5 ? 1 : 0));
        }
        ForestLegs x = Check.told("gap 0;course a " + TEN + ";runner p a 0 200" + p + ";runner q a 0 200" + q);
        chase(x, 5, 0, 0);
        x.become(0, 1);
        chase(x, 11, 0, 0);
        // a control that one misses parts two rows: 0 .. 6 and 8 .. 10
        x.drop(1, 7);
        chase(x, 7, 0, 0);
        x.undo();
        x.drop(0, 2);
        chase(x, 8, 3, 0);
    }

    private static void whoIsFirst() {
        check.says("who is there first at its last POINT (2; of like TIMES the least)");
        // at point 0 q is first, at point 1 p, at the finish they are apart
        ForestLegs x = Check.told("gap 2;course a 1,2;runner p a 0 90:1 10,2 20;runner q a 5 80:1 9,2 21");
        chase(x, 2, 0, 0);
        x.add(1, 2, 19);
        chase(x, 2, 0, 1);
        x.undo();
        x.add(1, 2, 20);
        chase(x, 2, 0, 0);
        // by times, not by splits
        x.start(0, 10);
        chase(x, 2, 0, 0);
        ForestLegs y = Check.told("gap 600;course a 1;runner p a 0 90;runner q a 0 89");
        chase(y, 1, 1, 1);
        ForestLegs z = Check.told("course a 1;runner n a 0 9;runner p a 0 90;runner q a 0 90");
        check.answered("of like times the least of others", z, z.chase(2, 1, 2), 1);
    }

    private static void team() {
        check.says("TEAM of two RUNNERS of one COURSE: on each LEG the lesser LEG TIME of those who HAVE it, together "
            + "(none, if on some LEG neither HAS it)");
        // every two sets of three controls
        for (int mine = 0; mine < 8; mine++) {
            for (int yours = 0; yours < 8; yours++) {
                int[] first = {0, 10, 25, 33, 50};
                int[] second = {2, 13, 26, 38, 49};
                ForestLegs x = Check.told("course a 1,2,3;runner p a 0 50" + punches(mine, first) + ";runner q a 2 49" + punches(yours, second));
                int sum = 0;
                for (int i = 0; i < 4 && sum >= 0; i++) {
                    boolean one = has(mine, i);
                    boolean other = has(yours, i);
                    int a = first[i + 1] - first[i];
                    int b = second[i + 1] - second[i];
                    sum = !one && !other ? -2 : sum + (one && other ? Math.min(a, b) : one ? a : b);
                }
                check.answered("team of " + mine + " and " + yours, x, x.team(0, 1), sum);
                check.answered("team of " + yours + " and " + mine, x, x.team(1, 0), sum);
                check.answered("mate with " + mine + " and " + yours, x, x.mate(0), sum < 0 ? -2 : 1);
            }
        }
        ForestLegs y = Check.told("course a 1;runner p a 0 9999:1 0;runner q a 0 9999:1 9999");
        check.answered("a sum of 0", y, y.team(0, 1), 0);
        ForestLegs z = Check.told("course a 1;runner p a 0 9999:1 0;runner q a 0 9999");
        check.answered("the greatest", z, z.team(0, 1), 9999);
    }

    private static String punches(int taken, int[] times) {
        StringBuilder row = new StringBuilder();
        for (int i = 0; i < 3; i++) {
            if ((taken >> i & 1) == 1) {
                row.append(row.length() == 0 ? ":" : ",").append(i + 1).append(' ').append(times[i + 1]);
            }
        }
        return row.toString();
    }

    private static boolean has(int taken, int leg) {
        return (leg == 0 || (taken >> leg - 1 & 1) == 1) && (leg == 3 || (taken >> leg & 1) == 1);
    }

    private static void mate() {
        check.says("The RUNNER with whom a RUNNER would make the best TEAM, of like ones the least; -2: none");
        ForestLegs x = Check.told("course a 1;course b 1;runner p a 0 40:1 20;runner q a 0 40:1 15;runner s a 0 40:1 25;runner t b 0 2:1 1");
        // with q 15 + 20, with s 20 + 15
        check.answered("of like ones the least", x, x.mate(0), 1);
        check.answered("with another one", x, x.mate(1), 2);
        check.answered("with q", x, x.mate(2), 1);
        check.answered("nobody else of his course", x, x.mate(3), -2);
        x.move(3, 0);
        check.answered("he is of it now", x, x.mate(0), 3);
        ForestLegs y = Check.told("course a 1;runner p a 0 9;runner q a 0 9;runner s a 0 9:1 5");
        check.answered("neither has a leg with q", y, y.mate(0), 2);
        check.answered("he has them all himself", y, y.mate(2), 0);
        y.drop(2, 0);
        check.answered("no team", y, y.mate(2), -2);
        // the best is neither the first nor the last: with q 20 + 15, with s 10 + 15, with t 18 + 15
        ForestLegs z = Check.told("course a 1;runner p a 0 35:1 20;runner q a 0 50:1 20;runner s a 0 50:1 10;runner t a 0 50:1 18");
        check.answered("the best in the middle", z, z.mate(0), 2);
        z.drop(2, 0);
        check.answered("then the last", z, z.mate(0), 3);
        z.drop(3, 0);
        check.answered("then the first", z, z.mate(0), 1);
        StringBuilder all = new StringBuilder("course z 1");
        for (int r = 0; r < 10; r++) {
            all.append(";runner ").append((char) ('a' + r)).append(" z 0 40:1 20");
        }
        ForestLegs ten = Check.told(all.toString());
        for (int r = 0; r < 10; r++) {
            check.due("ten like ones, " + r, ten.mate(r), r == 0 ? 1 : 0);
        }
        ten.start(9, 1);
        check.due("the last is the best", ten.mate(0), 9);
    }

    private static void passes() {
        check.says("How often a RUNNER comes by another one: of two POINTS one behind the other TAKEN by both the first one is behind (its TIME greater) at the first "
            + "and ahead (lesser) at the second");
        for (int at = -1; at <= 1; at++) {
            for (int then = -1; then <= 1; then++) {
                ForestLegs x = Check.told("course a 1;runner p a 0 " + (50 + then) + ":1 " + (20 + at) + ";runner q a 0 50:1 20");
                check.answered(at + " then " + then, x, x.passes(0, 1), at > 0 && then < 0 ? 1 : 0);
                check.answered(at + " then " + then + ", the other", x, x.passes(1, 0), at < 0 && then > 0 ? 1 : 0);
            }
        }
        // in turn at all eleven points: p is behind at even ones
        StringBuilder p = new StringBuilder();
        StringBuilder q = new StringBuilder();
        for (int i = 0; i < 10; i++) {
            p.append(i == 0 ? ":" : ",").append(i + 1).append(' ').append(10 * i + (i % 2 == 0 ? 1 : 0));
            q.append(i == 0 ? ":" : ",").append(i + 1).append(' ').append(10 * i + i % 2);
        }
        ForestLegs x = Check.told("course a " + TEN + ";runner p a 0 201" + p + ";runner q a 0 200" + q);
        check.answered("as often as can be", x, x.passes(0, 1), 5);
        check.answered("as often as can be, the other", x, x.passes(1, 0), 5);
        x.drop(1, 4);
        check.answered("point 4 is missed by one", x, x.passes(0, 1), 4);
        check.answered("point 4 is missed by one, the other", x, x.passes(1, 0), 4);
        // by times, not by splits; who misses a point between isn't passed there
        ForestLegs y = Check.told("course a 1,2,3;runner p a 20 90:1 30,2 40,3 50;runner q a 0 90:1 20,3 60");
        check.answered("a point is missed between", y, y.passes(0, 1), 0);
        y.add(1, 2, 40);
        check.answered("like times between", y, y.passes(0, 1), 0);
        y.drop(1, 1);
        y.add(1, 2, 39);
        check.answered("behind still", y, y.passes(0, 1), 1);
        ForestLegs z = Check.told("course a 1,2;runner p a 0 9;runner q a 0 8");
        check.answered("one point alone", z, z.passes(0, 1), 0);
    }

    private static void crowd(String text, int most, int time) {
        ForestLegs x = Check.told(text);
        check.answered("most of " + text, x, x.crowd(0), most);
        check.answered("time of " + text, x, x.crowd(1), time);
    }

    private static void crowd() {
        check.says("RUNNERS at the same time in the forest: the most there are at any TIME (START, not FINISH, counts), of all (what 0); the first such TIME (1)");
        crowd("course a 1;runner p a 0 1", 1, 0);
        crowd("course a 1;runner p a 9998 9999", 1, 9998);
        crowd("course a 1;runner p a 5 9;runner q a 9 12", 1, 5);
        crowd("course a 1;runner p a 5 9;runner q a 8 12", 2, 8);
        crowd("course a 1;runner p a 9 12;runner q a 5 9", 1, 5);
        crowd("course a 1;runner p a 8 12;runner q a 5 9", 2, 8);
        crowd("course a 1;course b 1;runner p a 5 9;runner q b 5 6", 2, 5);
        crowd("course a 1;runner p a 20 30;runner q a 20 30;runner s a 1 5;runner t a 2 3", 2, 2);
        crowd("course a 1;runner p a 1 5;runner q a 2 3;runner s a 20 30;runner t a 20 30;runner u a 29 31", 3, 29);
        StringBuilder all = new StringBuilder("course z 1");
        for (int r = 0; r < 10; r++) {
            all.append(";runner ").append((char) ('a' + r)).append(" z ").append(9 - r).append(" ").append(10 + r);
        }
        crowd(all.toString(), 10, 9);
        ForestLegs x = Check.told(all.toString());
        x.finish(9, 20);
        x.start(9, 19);
        check.answered("the last goes in when the others are out", x, x.crowd(0), 9);
        check.answered("the first such time", x, x.crowd(1), 9);
        check.says("6 (no RUNNER)");
        ForestLegs none = Check.told("course a 1");
        check.refused("no runner", none, none.crowd(0), 6);
        check.refused("no runner", none, none.crowd(1), 6);
    }

    private static void over(ForestLegs x, int from, int to, int time, int who) {
        check.answered("over(" + from + ", " + to + ", 0)", x, x.over(from, to, 0), time);
        check.answered("over(" + from + ", " + to + ", 1)", x, x.over(from, to, 1), who);
    }

    private static void over() {
        check.says("The least TIME in which somebody came from a CONTROL with a CODE to the next one of his COURSE with another CODE, "
            + "both TAKEN (what 0), who, the least (1); -2: nobody");
        ForestLegs x = Check.told("course a 1,99,1;course b 99,1;course c 1,2,99;runner p a 0 99:1 10,99 30,1 45;"
            + "runner q b 0 99:99 20,1 35;runner s c 0 99:1 1,2 2,99 3;runner t b 0 99:99 20;runner u b 0 99:1 9");
        over(x, 1, 99, 20, 0);
        over(x, 99, 1, 15, 0);
        over(x, 1, 2, 1, 2);
        over(x, 2, 99, 1, 2);
        over(x, 2, 1, -2, -2);
        over(x, 1, 1, -2, -2);
        over(x, 99, 99, -2, -2);
        // the first of like ones goes, then the next, then nobody is left
        x.drop(0, 2);
        over(x, 99, 1, 15, 1);
        x.drop(1, 1);
        over(x, 99, 1, -2, -2);
        // the fastest is neither the first nor the last
        ForestLegs w = Check.told("course a 1,2;runner p a 0 99:1 0,2 30;runner q a 0 99:1 0,2 20;runner s a 0 99:1 0,2 10;"
            + "runner t a 0 99:1 0,2 20");
        over(w, 1, 2, 10, 2);
        w.drop(2, 0);
        over(w, 1, 2, 20, 1);
        w.drop(1, 0);
        over(w, 1, 2, 20, 3);
        w.drop(3, 0);
        over(w, 1, 2, 30, 0);
        // neither from the start nor to the finish
        ForestLegs y = Check.told("course a 1,2;runner p a 0 9:1 5,2 5;runner q a 0 9999:1 0,2 9999");
        over(y, 1, 2, 0, 0);
        y.drop(0, 0);
        over(y, 1, 2, 9999, 1);
        ForestLegs z = Check.told("course a 1,2");
        over(z, 1, 2, -2, -2);
        // the last pair of ten, and a pair that comes round again
        ForestLegs u = Check.told("course a 1,2,3,1,2,3,1,2,3,4;runner p a 0 99:1 1,2 10,3 19,1 20,2 22,3 30,1 31,2 36,3 40,4 47");
        over(u, 1, 2, 2, 0);
        over(u, 2, 3, 4, 0);
        over(u, 3, 1, 1, 0);
        over(u, 3, 4, 7, 0);
        over(u, 4, 1, -2, -2);
    }

    private static void common() {
        check.says("How many pairs of CONTROLS one behind the other of one COURSE (those alike in both CODES once) "
            + "there are in another one, too");
        ForestLegs x = Check.told("course a " + TEN + ";course b 10,9,8,7,6,5,4,3,2,1;course c 5");
        int[][] due = {{9, 0, 0}, {0, 9, 0}, {0, 0, 0}};
        for (int c = 0; c < 3; c++) {
            for (int d = 0; d < 3; d++) {
                check.answered("common(" + c + ", " + d + ")", x, x.common(c, d), due[c][d]);
            }
        }
        ForestLegs y = Check.told("course a 1,2,1,2,1,2,1,2,1,2;course b 1,2;course c 2,1,3,9,10,1,2");
        int[][] few = {{2, 1, 2}, {1, 1, 1}, {2, 1, 6}};
        for (int c = 0; c < 3; c++) {
            for (int d = 0; d < 3; d++) {
                check.answered("common(" + c + ", " + d + ") with like pairs", y, y.common(c, d), few[c][d]);
            }
        }
        // only the last pairs are alike
        ForestLegs z = Check.told("course a 1,2,3,4,5,6,7,8,98,99;course b 98,99");
        check.due("the last pair", z.common(0, 1), 1);
        check.due("the last pair, from the other", z.common(1, 0), 1);
        z.recode(1, 1, 97);
        check.due("as it is now", z.common(0, 1), 0);
        z.undo();
        z.cancel(0, 9);
        check.due("as it is then", z.common(1, 0), 0);
    }
}
