import java.util.ArrayList;
import java.util.Arrays;
import java.util.List;

/** Boundary cases of MATCH, MISSED, EXTRA, VALID, TOTAL and of promises 6 to 13. */
final class MatchEdgesTest {
    private static final Check check = new Check();
    private static final int NOT_TAKEN = 99;

    public static void main(String[] args) {
        allSmallOnes();
        nothingAndAll();
        tenOfSixteen();
        likeTimes();
        missedAndExtra();
        validOnHisOwnCourse();
        totals();
        about();
        course();
        runner();
        punch();
        misses();
        fits();
        missed();
        check.end();
    }

    /** Every course of up to four controls and every row of up to five punches, of three codes. */
    private static void allSmallOnes() {
        check.says("of all ways one by which the most are TAKEN; of like ones the first: from CONTROL 0 on one that is TAKEN "
            + "ahead of one that isn't, by an earlier PUNCH (by its place) ahead of a later one");
        for (int[] codes : rows(4, false)) {
            for (int[] punches : rows(5, true)) {
                if (codes.length > 0) {
                    small(codes, punches);
                }
            }
        }
    }

    private static List<int[]> rows(int longest, boolean alike) {
        List<int[]> all = new ArrayList<>();
        all.add(new int[0]);
        for (int at = 0; at < all.size(); at++) {
            int[] row = all.get(at);
            for (int code = 1; code <= 3 && row.length < longest; code++) {
                if (alike || row.length == 0 || row[row.length - 1] != code) {
                    int[] more = Arrays.copyOf(row, row.length + 1);
                    more[row.length] = code;
                    all.add(more);
                }
            }
        }
        return all;
    }

    private static void small(int[] codes, int[] punches) {
        StringBuilder text = new StringBuilder("course a");
        for (int i = 0; i < codes.length; i++) {
            text.append(i == 0 ? ' ' : ',').append(codes[i]);
        }
        text.append(";runner p a 0 9");
        for (int k = 0; k < punches.length; k++) {
            text.append(k == 0 ? ':' : ',').append(punches[k]).append(" 5");
        }
        ForestLegs x = Check.told(text.toString());
        int[] way = first(codes, punches, 0, 0, new int[codes.length], null);
        int bits = 0;
        int count = 0;
        for (int i = 0; i < codes.length; i++) {
            bits |= way[i] == NOT_TAKEN ? 1 << i : 0;
            count += way[i] == NOT_TAKEN ? 1 : 0;
        }
        check.due("missed of " + text, x.missed(0), bits);
        check.due("misses of " + text, x.misses(0, 0), count);
        check.due("MISSED of " + text, x.runner(0, 5), count);
        check.due("EXTRA of " + text, x.runner(0, 6), punches.length - codes.length + count);
        for (int k = 0; k < punches.length; k++) {
            int control = -2;
            for (int i = 0; i < codes.length; i++) {
                control = way[i] == k ? i : control;
            }
            check.due("punch " + k + " of " + text, x.punch(0, k, 2), control);
        }
    }

    /** Looks at every way there is and keeps the first of the best. */
    private static int[] first(int[] codes, int[] punches, int i, int from, int[] way, int[] best) {
        if (i == codes.length) {
            return best == null || goesAhead(way, best) ? way.clone() : best;
        }
        int[] found = best;
        for (int k = from; k < punches.length; k++) {
            if (punches[k] == codes[i]) {
                way[i] = k;
                found = first(codes, punches, i + 1, k + 1, way, found);
            }
        }
        way[i] = NOT_TAKEN;
        return first(codes, punches, i + 1, from, way, found);
    }

    private static boolean goesAhead(int[] way, int[] best) {
        long more = Arrays.stream(way).filter(k -> k != NOT_TAKEN).count() - Arrays.stream(best).filter(k -> k != NOT_TAKEN).count();
        return more > 0 || more == 0 && Arrays.compare(way, best) < 0;
    }

    private static void nothingAndAll() {
        check.says("CONTROLS in order are TAKEN by PUNCHES of their CODES in order, each by another one");
        ForestLegs x = Check.told("course a 1,2,3,4,5,6,7,8,9,10;"
            + "runner none a 0 9;"
            + "runner all a 0 9:1 1,2 1,3 1,4 1,5 1,6 1,7 1,8 1,9 1,10 1;"
            + "runner wrong a 0 9:10 1,9 1,8 1,7 1,6 1,5 1,4 1,3 1,2 1,1 1;"
            + "runner other a 0 9:11 1" + Check.repeat(",12 1", 15));
        int[] missed = {10, 0, 9, 10};
        int[] extra = {0, 0, 9, 16};
        for (int r = 0; r < 4; r++) {
            check.due("MISSED of " + r, x.runner(r, 5), missed[r]);
            check.due("EXTRA of " + r, x.runner(r, 6), extra[r]);
        }
        // of ten ways that take one, that of control 0
        check.due("the wrong way round", x.missed(2), 1023 - 1);
        check.due("the wrong way round, by the last punch", x.punch(2, 9, 2), 0);
        ForestLegs y = Check.told("course a 1,2,1,2,1,2,1,2,1,2;runner p a 0 9:1 5" + Check.repeat(",2 5,1 5", 7) + ",2 5");
        for (int k = 0; k < 16; k++) {
            check.due("sixteen for ten, punch " + k, y.punch(0, k, 2), k < 10 ? k : -2);
        }
        ForestLegs z = Check.told("course a 1,2,1,2,1;runner p a 0 9:1 5");
        check.due("one punch takes one control", z.missed(0), 30);
    }

    /** Each row of as many controls as fit is taken by each row of as many punches as fit that has one stretch of it. */
    private static void tenOfSixteen() {
        check.says("of all ways one by which the most are TAKEN");
        for (int first = 0; first < 10; first++) {
            for (int last = first; last < 10; last++) {
                for (int at = 0; at + last - first < 16; at++) {
                    StringBuilder punches = new StringBuilder();
                    for (int k = 0; k < 16; k++) {
                        int i = first + k - at;
                        punches.append(k == 0 ? ":" : ",").append(k >= at && i <= last ? i + 1 : 50).append(" 5");
                    }
                    ForestLegs x = Check.told("course a 1,2,3,4,5,6,7,8,9,10;runner p a 0 9" + punches);
                    int taken = (1 << last + 1) - (1 << first);
                    check.due("missed, " + first + " to " + last + " at " + at, x.missed(0), 1023 - taken);
                    check.due("misses, " + first + " to " + last + " at " + at, x.misses(0, 0), 9 - last + first);
                    check.due("by the first punch of it", x.punch(0, at, 2), first);
                    check.due("by the last punch of it", x.punch(0, at + last - first, 2), last);
                }
            }
        }
    }

    private static void likeTimes() {
        check.says("by an earlier PUNCH (by its place) ahead of a later one");
        ForestLegs x = Check.told("course a 1;runner p a 0 9:1 5,1 5,1 5");
        check.due("the first of like times", x.punch(0, 0, 2), 0);
        check.due("the second is extra", x.punch(0, 1, 2), -2);
        check.due("the third is extra", x.punch(0, 2, 2), -2);
        // of like times the order in which they are told counts
        ForestLegs y = Check.told("course a 1,2;runner p a 0 9:2 5,1 5;runner q a 0 9:1 5,2 5");
        check.due("the wrong way round at one time", y.runner(0, 5), 1);
        check.due("the right way round at one time", y.runner(1, 5), 0);
    }

    private static void missedAndExtra() {
        check.says("MISSED are CONTROLS that aren't TAKEN, EXTRA PUNCHES that take none");
        ForestLegs x = Check.told("course a 1,2;runner p a 0 9:3 1,1 2,1 3,2 4,2 5,3 6");
        check.due("MISSED", x.runner(0, 5), 0);
        check.due("EXTRA", x.runner(0, 6), 4);
        int[] takes = {-2, 0, -2, 1, -2, -2};
        for (int k = 0; k < 6; k++) {
            check.due("punch " + k, x.punch(0, k, 2), takes[k]);
        }
    }

    private static void validOnHisOwnCourse() {
        check.says("VALID: none is MISSED on his own COURSE (all below is by that)");
        ForestLegs x = Check.told("course a 1,2;course b 2,1;runner p a 0 9:2 3,1 4;runner q b 0 9:2 3,1 4");
        check.due("not valid, though he runs another one", x.runner(0, 7), 0);
        check.due("he would miss none of that", x.misses(0, 1), 0);
        check.due("missed on his own", x.missed(0), 2);
        check.due("valid", x.runner(1, 7), 1);
        check.due("he would miss one of the other", x.misses(1, 0), 1);
        check.due("valid ones", x.about(5), 1);
        x.move(0, 1);
        check.due("valid by the course he is of", x.runner(0, 7), 1);
        x.move(1, 0);
        check.due("not valid by the course he is of", x.runner(1, 7), 0);
    }

    private static void totals() {
        check.says("TOTAL: FINISH less START");
        ForestLegs x = Check.told("course a 1;runner p a 0 9999;runner q a 0 1;runner s a 9998 9999");
        check.due("the greatest", x.runner(0, 3), 9999);
        check.due("the least", x.runner(1, 3), 1);
        check.due("the least at the end", x.runner(2, 3), 1);
    }

    private static void about() {
        check.says("0 COURSES, 1 RUNNERS, 2 gap, 3 slack, 4 PUNCHES of all, 5 VALID RUNNERS, 6 ACTS that can be undone");
        int[] least = {1, 0, 10, 20, 0, 0, 0};
        ForestLegs x = Check.told("course a 1");
        for (int what = 0; what <= 6; what++) {
            check.answered("about(" + what + ") of nearly nothing", x, x.about(what), least[what]);
        }
        StringBuilder all = new StringBuilder("course a 1;course b 2;course c 3;gap 600;slack 600");
        for (int r = 0; r < 10; r++) {
            all.append(";runner r").append((char) ('a' + r)).append(" a 0 9:1 5,1 6,1 7,1 8,1 9,1 9");
        }
        ForestLegs y = Check.told(all.toString());
        for (int act = 0; act < 11; act++) {
            y.move(0, 0);
        }
        int[] most = {3, 10, 600, 600, 60, 10, 10};
        for (int what = 0; what <= 6; what++) {
            check.answered("about(" + what + ") of much", y, y.about(what), most[what]);
        }
    }

    private static void course() {
        check.says("Of a COURSE 0 CONTROLS, 1 RUNNERS, 2 VALID ones, 3 IDEAL (-2: none), 4 the least TOTAL of VALID ones (-2: there are none)");
        ForestLegs x = Check.told("course a 1,2;course b 1;course c 1;runner p b 0 5;runner q c 0 9:1 0;runner s c 0 9:1 9");
        int[][] due = {{2, 0, 0, -2, -2}, {1, 1, 0, -2, -2}, {1, 2, 2, 0, 9}};
        for (int c = 0; c < 3; c++) {
            for (int what = 0; what < 5; what++) {
                check.answered("course(" + c + ", " + what + ")", x, x.course(c, what), due[c][what]);
            }
        }
        check.says("IDEAL of a COURSE: BEST of all LEGS together (none, if some LEG has none)");
        // each of two misses one: together they have all legs but one, then all
        ForestLegs y = Check.told("course a 1,2,3;runner p a 0 40:1 10,2 15;runner q a 0 40:2 30,3 36");
        check.due("all legs are had by one or the other", y.course(0, 3), 10 + 5 + 6 + 4);
        y.drop(0, 1);
        check.due("one leg is had by none", y.course(0, 3), -2);
        check.due("none is valid", y.course(0, 4), -2);
        check.says("BEST of a LEG of a COURSE: the least LEG TIME of RUNNERS of it who HAVE it");
        // a runner of another course is the fastest there
        ForestLegs z = Check.told("course a 1;course b 1;runner p a 0 40:1 10;runner q b 0 4:1 2");
        check.due("of that course alone", z.course(0, 3), 40);
        check.due("least total of that course alone", z.course(0, 4), 40);
    }

    private static void runner() {
        check.says("Of a RUNNER 0 COURSE, 1 START, 2 FINISH, 3 TOTAL, 4 PUNCHES, 5 MISSED, 6 EXTRA, 7 1 if VALID, 0, "
            + "8 PLACE (-2: not VALID), 9 TOTAL less the least one of his COURSE (-2: not VALID)");
        ForestLegs edges = Check.told("course a 1;course b 1,2,3,4,5,6,7,8,9,10;course c 9;runner p a 0 1;"
            + "runner q b 9998 9999:11 9998" + Check.repeat(",11 9999", 15) + ";runner s c 0 9999:9 0;runner t c 0 9998:9 0,9 1");
        int[][] whats = {{0, 0, 1, 1, 0, 1, 0, 0, -2, -2}, {1, 9998, 9999, 1, 16, 10, 16, 0, -2, -2},
            {2, 0, 9999, 9999, 1, 0, 0, 1, 2, 1}, {2, 0, 9998, 9998, 2, 0, 1, 1, 1, 0}};
        for (int r = 0; r < 4; r++) {
            for (int what = 0; what < 10; what++) {
                check.answered("runner(" + r + ", " + what + ")", edges, edges.runner(r, what), whats[r][what]);
            }
        }
        ForestLegs x = Check.told("course a 1;course b 1;runner p a 0 9;runner q a 0 30:1 5;runner s b 0 20:1 5;runner t a 0 31:1 5");
        int[] places = {-2, 1, 1, 2};
        int[] behind = {-2, 0, 0, 1};
        for (int r = 0; r < 4; r++) {
            check.answered("PLACE of " + r, x, x.runner(r, 8), places[r]);
            check.answered("behind, of " + r, x, x.runner(r, 9), behind[r]);
        }
        check.says("PLACE of a VALID RUNNER: 1 and how many VALID ones of his COURSE have a lesser TOTAL");
        StringBuilder all = new StringBuilder("course z 1");
        for (int r = 0; r < 10; r++) {
            all.append(";runner ").append((char) ('a' + r)).append(" z 0 ").append(30 - r).append(":1 5");
        }
        ForestLegs y = Check.told(all.toString());
        ForestLegs like = Check.told(all.toString().replaceAll(" \\d\\d:", " 20:"));
        for (int r = 0; r < 10; r++) {
            check.due("ten of them, " + r, y.runner(r, 8), 10 - r);
            check.due("ten of them, " + r + " behind", y.runner(r, 9), 9 - r);
            check.due("ten like ones, " + r, like.runner(r, 8), 1);
        }
    }

    private static void punch() {
        check.says("Of PUNCH k (0: the first) 0 CODE, 1 TIME, 2 the CONTROL that it takes (-2: EXTRA)");
        ForestLegs x = Check.told("course a 99;runner p a 0 9999:1 0,99 0,99 9999");
        int[][] due = {{1, 0, -2}, {99, 0, 0}, {99, 9999, -2}};
        for (int k = 0; k < 3; k++) {
            for (int what = 0; what < 3; what++) {
                check.answered("punch(0, " + k + ", " + what + ")", x, x.punch(0, k, what), due[k][what]);
            }
        }
    }

    private static void misses() {
        check.says("How many CONTROLS of a COURSE a RUNNER would miss, by his MATCH on it");
        ForestLegs x = Check.told("course a 1,2,3,4,5,6,7,8,9,10;course b 1;course c 2,1;runner p b 0 9;runner q b 0 9:1 5,2 5");
        int[][] due = {{10, 1, 2}, {8, 0, 1}};
        for (int r = 0; r < 2; r++) {
            for (int c = 0; c < 3; c++) {
                check.answered("misses(" + r + ", " + c + ")", x, x.misses(r, c), due[r][c]);
            }
        }
    }

    private static void fits() {
        check.says("The COURSE of which a RUNNER misses the fewest CONTROLS, of like ones that with most CONTROLS, then the least");
        check.due("the only one", Check.told("course a 1;runner p a 0 9").fits(0), 0);
        check.due("without punches the one with fewest", Check.told("course a 1,2;course b 3;course c 4;runner p a 0 9").fits(0), 1);
        check.due("of like ones with most", Check.told("course a 1;course b 1,2;course c 1,2,3;runner p a 0 9:1 1,2 1,3 1").fits(0), 2);
        check.due("with most, missing as many", Check.told("course a 5;course b 1,6;course c 1,2,7;runner p a 0 9:1 1,2 1").fits(0), 2);
        check.due("of like ones the least", Check.told("course a 5,6;course b 1,2;course c 1,3;runner p a 0 9:1 1,2 1,3 1").fits(0), 1);
        check.due("the fewest, though shorter", Check.told("course a 1,2,3,4;course b 1;runner p a 0 9:1 1,2 1,3 1").fits(0), 1);
        check.due("of like ones with most, which is told first", Check.told("course a 1,2;course b 1;course c 2;runner p a 0 9:1 1,2 1").fits(0), 0);
        check.due("of like ones with most, which is in the middle", Check.told("course a 1;course b 1,2;course c 2;runner p a 0 9:1 1,2 1").fits(0), 1);
        check.due("the fewest, which is told first", Check.told("course a 1;course b 1,2,3;course c 5;runner p a 0 9:1 1").fits(0), 0);
        check.due("the fewest, which is in the middle", Check.told("course a 3,4;course b 1,3;course c 1,5,6;runner p a 0 9:1 1").fits(0), 1);
        check.due("he may be of another", Check.told("course a 1;course b 2;runner p a 0 9:2 1").fits(0), 1);
    }

    private static void missed() {
        check.says("CONTROLS that a RUNNER MISSED, as bits");
        for (int i = 0; i < 10; i++) {
            StringBuilder all = new StringBuilder();
            for (int k = 0; k < 10; k++) {
                all.append(k == i ? "" : "," + (k + 1) + " 5");
            }
            ForestLegs x = Check.told("course a 1,2,3,4,5,6,7,8,9,10;runner p a 0 9:" + all.substring(1));
            check.answered("control " + i, x, x.missed(0), 1 << i);
        }
        check.due("none", Check.told("course a 1;runner p a 0 9:1 5").missed(0), 0);
    }
}
