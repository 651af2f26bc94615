/** Promises 37 and 38: over, common. */
final class CoursesTest {
    private static final Check check = new Check();

    public static void main(String[] args) {
        over();
        common();
        check.end();
    }

    private static void over() {
        ForestLegs x = Forest.fresh();
        int[][] want = {{31, 40, 50, 0}, {40, 32, 60, 0}, {32, 40, 40, 0}, {40, 33, 60, 0}, {31, 32, 50, 3}, {32, 35, 30, 3},
            {31, 33, -2, -2}, {40, 31, -2, -2}, {35, 35, -2, -2}, {1, 99, -2, -2}};
        for (int[] row : want) {
            check.answered("37: over(" + row[0] + ", " + row[1] + ", 0)", x, x.over(row[0], row[1], 0), row[2]);
            check.answered("37: over(" + row[0] + ", " + row[1] + ", 1)", x, x.over(row[0], row[1], 1), row[3]);
        }
        check.refused("37: over(0, 1, 0)", x, x.over(0, 1, 0), 2);
        check.refused("37: over(1, 0, 0)", x, x.over(1, 0, 0), 2);
        check.refused("37: over(100, 1, 0)", x, x.over(100, 1, 0), 2);
        check.refused("37: over(1, 100, 0)", x, x.over(1, 100, 0), 2);
        check.refused("37: over(1, 2, 2)", x, x.over(1, 2, 2), 1);
        check.refused("37: over(1, 2, -1)", x, x.over(1, 2, -1), 1);
        check.refused("37: what goes ahead of codes", x, x.over(0, 0, 2), 1);
        // twice on a course, on another one too, not where one end is missed
        ForestLegs y = Check.told("course a 1,2,1,2;course b 3,1,2;runner p a 0 99:1 10,2 30,1 40,2 55;"
            + "runner q b 0 99:3 5,1 10,2 25;runner s b 0 99:3 5,2 6;runner t b 0 99:1 10,2 26");
        check.due("37: the lesser of two", y.over(1, 2, 0), 15);
        check.due("37: of like ones the least", y.over(1, 2, 1), 0);
        y.drop(0, 3);
        check.due("37: then the next", y.over(1, 2, 1), 1);
        check.due("37: of the first pair again", y.over(2, 1, 0), 10);
        check.due("37: both are to be taken", y.over(3, 1, 1), 1);
    }

    private static void common() {
        ForestLegs x = Check.told("course a 1,2,3,1,2,3,4;course b 2,3,1,2;course c 9");
        int[][] want = {{0, 0, 4}, {0, 1, 3}, {1, 0, 3}, {1, 1, 3}, {0, 2, 0}, {2, 0, 0}, {2, 2, 0}};
        for (int[] row : want) {
            check.answered("38: common(" + row[0] + ", " + row[1] + ")", x, x.common(row[0], row[1]), row[2]);
        }
        check.refused("38: common(3, 0)", x, x.common(3, 0), 1);
        check.refused("38: common(0, 3)", x, x.common(0, 3), 1);
        check.refused("38: common(-1, 0)", x, x.common(-1, 0), 1);
        check.refused("38: common(0, -1)", x, x.common(0, -1), 1);
        ForestLegs z = Check.told("course a 1,2,1,2,1,2;course b 3,1,2,1");
        check.due("38: alike in both codes once", z.common(0, 1), 2);
        check.due("38: the other way round", z.common(1, 0), 2);
        ForestLegs y = Check.told("course a 1,2;course b 2,1");
        check.due("38: the other way round is another pair", y.common(0, 1), 0);
        y.recode(1, 0, 5);
        y.recode(1, 1, 2);
        y.recode(1, 0, 1);
        check.due("38: as it is now", y.common(0, 1), 1);
    }
}
