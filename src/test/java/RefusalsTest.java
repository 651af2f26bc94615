import java.lang.reflect.Method;
import java.util.Arrays;
import java.util.Set;
import java.util.function.Supplier;

/**
 * Each call that may be refused, at the least and the greatest value that is taken of each of its numbers and just beside
 * them: the number of TROUBLE, what where() and fault() tell behind it, and that nothing else has changed.
 */
final class RefusalsTest {
    private static final Check check = new Check();
    private static final int LOWEST = Integer.MIN_VALUE;
    private static final int HIGHEST = Integer.MAX_VALUE;
    private static final Set<String> ACTS = Set.of("add", "drop", "start", "finish", "move", "become", "recode", "cancel");
    private static final String TEXT = "gap 5;slack 6;course long 1,2,3;course short 3,1;course spare 9;"
        + "runner ann long 10 60:1 20,2 30,3 40;runner bob long 12 70:1 22,3 44;runner cat short 0 30:3 5,1 9;runner dan spare 3 9";

    /** Ahead of each call: two acts, a faulty text (fault 3 at 6) and a name on the tape. */
    private static ForestLegs made() {
        ForestLegs x = Check.told(TEXT);
        x.become(0, 7);
        x.start(3, 4);
        Check.tell(x, "gap 1;gap 2");
        Check.feed(x, "ann");
        return x;
    }

    private static ForestLegs empty() {
        ForestLegs x = new ForestLegs();
        Check.tell(x, "gap 1;gap 2");
        Check.feed(x, "ann");
        return x;
    }

    private static ForestLegs full() {
        ForestLegs x = Check.told("course a 1;runner ann a 0 9:1 5" + Check.repeat(",1 5", 15));
        Check.tell(x, "gap 1;gap 2");
        Check.feed(x, "ann");
        return x;
    }

    private static ForestLegs noRunner() {
        ForestLegs x = Check.told("course a 1");
        Check.tell(x, "gap 1;gap 2");
        Check.feed(x, "ann");
        return x;
    }

    public static void main(String[] args) throws Exception {
        told();
        whoRanWhat();
        pointsAndLegs();
        whatIsLost();
        packs();
        pairs();
        crowdOverCommon();
        actsOnRunners();
        actsOnCourses();
        undo();
        text();
        noText();
        severalOnes();
        check.end();
    }

    private static int call(String name, ForestLegs x, int... values) throws Exception {
        Class<?>[] ints = new Class<?>[values.length];
        Arrays.fill(ints, int.class);
        Method method = ForestLegs.class.getMethod(name, ints);
        return (Integer) method.invoke(x, Arrays.stream(values).boxed().toArray());
    }

    private static void same(String what, ForestLegs x, ForestLegs twin) {
        check.due(what + ": fault()", x.fault(), 3);
        check.due(what + ": size()", x.size(), 20);
        check.due(what + ": the name on the tape", Check.named(x, 3, false), Check.named(twin, 3, false));
        check.due(what + ": the state", Check.state(x), Check.state(twin));
    }

    private static void refused(Supplier<ForestLegs> making, int trouble, String name, int... values) throws Exception {
        String what = name + Arrays.toString(values);
        ForestLegs x = making.get();
        ForestLegs twin = making.get();
        check.due(what + ": where() ahead of it", x.where(), 6);
        check.refused(what, x, call(name, x, values), trouble);
        same(what, x, twin);
        for (int left = twin.about(6); left >= 0; left--) {
            check.due(what + ": undo() behind it", x.undo(), twin.undo());
        }
        check.due(what + ": the state behind undo()", Check.state(x), Check.state(twin));
    }

    private static void refused(int trouble, String name, int... values) throws Exception {
        refused(RefusalsTest::made, trouble, name, values);
    }

    private static void taken(String name, int... values) throws Exception {
        String what = name + Arrays.toString(values);
        ForestLegs x = made();
        int answer = call(name, x, values);
        check.due(what + " is refused", answer == ForestLegs.NONE ? 1 : 0, 0);
        check.due(what + ": trouble()", x.trouble(), 0);
        check.due(what + ": where()", x.where(), -1);
        if (ACTS.contains(name)) {
            check.due(what + ": acts", x.about(6), 3);
            check.due(what + ": undone", x.undo(), 2);
        }
        same(what, x, made());
    }

    /** One number of a call goes from least to greatest; the others are as in base. */
    private static void edge(int trouble, String name, int which, int least, int greatest, int... base) throws Exception {
        int[] values = base.clone();
        for (int value : new int[] {least, greatest}) {
            values[which] = value;
            taken(name, values);
        }
        for (long value : new long[] {least - 1L, greatest + 1L, LOWEST, HIGHEST}) {
            if (value == (int) value && (value < least || value > greatest)) {
                values[which] = (int) value;
                refused(trouble, name, values);
            }
        }
    }

    /** The first number is -1, that of base or further off: there is none such. */
    private static void notTheseOnes(String name, int... base) throws Exception {
        int[] values = base.clone();
        for (int value : new int[] {-1, base[0], LOWEST, HIGHEST}) {
            values[0] = value;
            refused(1, name, values);
        }
    }

    private static void told() throws Exception {
        check.says("NONE: 1 (no TEXT, what).");
        edge(1, "about", 0, 0, 6, 0);
        check.says("4 the least TOTAL of VALID ones (-2: there are none). NONE: 1 (what, too).");
        edge(1, "course", 0, 0, 2, 0, 0);
        edge(1, "course", 1, 0, 4, 0, 0);
        check.says("The CODE of CONTROL i. NONE: 1.");
        edge(1, "code", 0, 0, 2, 0, 0);
        edge(1, "code", 1, 0, 2, 0, 0);
        edge(1, "code", 1, 0, 1, 1, 0);
        edge(1, "code", 1, 0, 0, 2, 0);
        check.says("9 TOTAL less the least one of his COURSE (-2: not VALID). NONE: 1 (what, too).");
        edge(1, "runner", 0, 0, 3, 0, 0);
        edge(1, "runner", 1, 0, 9, 0, 0);
        check.says("2 the CONTROL that it takes (-2: EXTRA). NONE: 1 (what, too).");
        edge(1, "punch", 0, 0, 2, 0, 0, 0);
        edge(1, "punch", 1, 0, 2, 0, 0, 0);
        edge(1, "punch", 1, 0, 1, 1, 0, 0);
        edge(1, "punch", 2, 0, 2, 0, 0, 0);
        refused(1, "punch", 3, 0, 0);
        refused(1, "punch", 4, 0, 0);
    }

    private static void whoRanWhat() throws Exception {
        check.says("How many CONTROLS of a COURSE a RUNNER would miss, by his MATCH on it. NONE: 1.");
        edge(1, "misses", 0, 0, 3, 0, 0);
        edge(1, "misses", 1, 0, 2, 0, 0);
        check.says("of like ones that with most CONTROLS, then the least. NONE: 1.");
        edge(1, "fits", 0, 0, 3, 0);
        check.says("CONTROLS that a RUNNER MISSED, as bits. NONE: 1.");
        edge(1, "missed", 0, 0, 3, 0);
    }

    private static void pointsAndLegs() throws Exception {
        check.says("behind who LEADS (2); -2: it isn't TAKEN. NONE: 1 (what, too).");
        points("split", 2);
        check.says("-2: he hasn't it. NONE: 1 (what, too).");
        points("leg", 3);
        check.says("BEST of a LEG: it (what 0), the RUNNER (1); -2: none HAS it. NONE: 1 (what, too).");
        pointsOfCourse("best");
        check.says("Who LEADS at a POINT; -2: it is TAKEN by none. NONE: 1.");
        edge(1, "leads", 0, 0, 2, 0, 0);
        edge(1, "leads", 1, 0, 3, 0, 0);
        edge(1, "leads", 1, 0, 2, 1, 0);
        edge(1, "leads", 1, 0, 1, 2, 0);
        check.says("(both with one who LEADS). NONE: 1.");
        edge(1, "changes", 0, 0, 2, 0);
        check.says("-2 there are not so many. NONE: 1 (i below 0, too).");
        edge(1, "ranked", 0, 0, 2, 0, 0);
        edge(1, "ranked", 1, 0, HIGHEST, 0, 0);
    }

    private static void points(String name, int what) throws Exception {
        edge(1, name, 0, 0, 3, 0, 0, 0);
        edge(1, name, 1, 0, 3, 0, 0, 0);
        edge(1, name, 1, 0, 2, 2, 0, 0);
        edge(1, name, 1, 0, 1, 3, 0, 0);
        edge(1, name, 2, 0, what, 0, 0, 0);
        // also where the answer would be -2
        edge(1, name, 2, 0, what, 1, 1, 0);
    }

    private static void pointsOfCourse(String name) throws Exception {
        edge(1, name, 0, 0, 2, 0, 0, 0);
        edge(1, name, 1, 0, 3, 0, 0, 0);
        edge(1, name, 1, 0, 2, 1, 0, 0);
        edge(1, name, 1, 0, 1, 2, 0, 0);
        edge(1, name, 2, 0, 1, 0, 0, 0);
        edge(1, name, 2, 0, 1, 2, 0, 0);
    }

    private static void whatIsLost() throws Exception {
        check.says("All LOST of a RUNNER on LEGS that he HAS together. NONE: 1.");
        edge(1, "lost", 0, 0, 3, 0);
        check.says("of like ones the first; -2: he HAS none. NONE: 1.");
        edge(1, "worst", 0, 0, 3, 0);
        check.says("PACE in lowest terms: above (what 0), below (1). NONE: 1 (what, too); 6 (none).");
        taken("pace", 0, 0);
        taken("pace", 2, 1);
        notTheseOnes("pace", 4, 0);
        edge(1, "pace", 1, 0, 1, 0, 0);
        refused(6, "pace", 3, 0);
        refused(6, "pace", 3, 1);
        check.says("LEGS with a MISTAKE above 0, as bits. NONE: 1.");
        edge(1, "mistakes", 0, 0, 3, 0);
        check.says("CLEAN. NONE: 1.");
        edge(1, "clean", 0, 0, 3, 0);
        check.says("theirs CLEAN, too (1); -2: not VALID. NONE: 1 (what, too).");
        edge(1, "cleanPlace", 0, 0, 3, 0, 0);
        edge(1, "cleanPlace", 1, 0, 1, 0, 0);
        edge(1, "cleanPlace", 1, 0, 1, 1, 0);
        check.says("that TOTAL (1); -2: there is none. NONE: 1 (what, too).");
        pointsOfCourse("without");
        check.says("how much (1); -2: none HAS any. NONE: 1 (what, too).");
        edge(1, "hardest", 0, 0, 2, 0, 0);
        edge(1, "hardest", 1, 0, 1, 0, 0);
        edge(1, "hardest", 1, 0, 1, 2, 0);
    }

    private static void packs() throws Exception {
        check.says("How many PACKS there are at a CODE (1 .. 99). NONE: 1 (no TEXT); 2.");
        edge(2, "packs", 0, 1, 99, 1);
        check.says("-2 there are not so many. NONE: 1 (no TEXT; k below 0, what); 2.");
        edge(2, "pack", 0, 1, 99, 1, 0, 0);
        edge(1, "pack", 1, 0, HIGHEST, 1, 0, 0);
        edge(1, "pack", 2, 0, 3, 1, 0, 0);
        edge(1, "pack", 2, 0, 3, 99, 0, 0);
    }

    private static void pairs() throws Exception {
        check.says("POINTS at which two RUNNERS are TOGETHER, as bits. NONE: 1; 5 (one RUNNER, not one COURSE).");
        pair("together");
        check.says("POINTS that a RUNNER has TAKEN at which he is TOGETHER with nobody, as bits. NONE: 1.");
        edge(1, "alone", 0, 0, 3, 0);
        check.says("-2 there is none. NONE: 1 (what, too); 5 (one RUNNER, not one COURSE).");
        pair("chase", 0);
        pair("chase", 2);
        edge(1, "chase", 2, 0, 2, 0, 1, 0);
        check.says("TEAM: on all LEGS together; -2: none. NONE: 1; 5 (one RUNNER, not one COURSE).");
        pair("team");
        check.says("of like ones the least; -2: none. NONE: 1.");
        edge(1, "mate", 0, 0, 3, 0);
        check.says("ahead (lesser) at the second. NONE: 1; 5 (one RUNNER, not one COURSE).");
        pair("passes");
    }

    private static void pair(String name, int... what) throws Exception {
        taken(name, two(0, 1, what));
        taken(name, two(1, 0, what));
        for (int q : new int[] {-1, 4, LOWEST, HIGHEST}) {
            refused(1, name, two(0, q, what));
            refused(1, name, two(q, 0, what));
            refused(1, name, two(q, q, what));
        }
        for (int r = 0; r <= 3; r++) {
            refused(5, name, two(r, r, what));
        }
        refused(5, name, two(0, 2, what));
        refused(5, name, two(3, 1, what));
        refused(5, name, two(2, 3, what));
    }

    private static int[] two(int r, int q, int[] what) {
        return what.length == 0 ? new int[] {r, q} : new int[] {r, q, what[0]};
    }

    private static void crowdOverCommon() throws Exception {
        check.says("the first such TIME (1). NONE: 1 (no TEXT, what); 6 (no RUNNER).");
        edge(1, "crowd", 0, 0, 1, 0);
        refused(RefusalsTest::noRunner, 6, "crowd", 0);
        refused(RefusalsTest::noRunner, 6, "crowd", 1);
        refused(RefusalsTest::noRunner, 1, "crowd", 2);
        refused(RefusalsTest::noRunner, 1, "crowd", -1);
        check.says("who, the least (1); -2: nobody. NONE: 1 (no TEXT, what); 2 (CODES 1 .. 99).");
        edge(2, "over", 0, 1, 99, 1, 2, 0);
        edge(2, "over", 1, 1, 99, 1, 2, 0);
        edge(1, "over", 2, 0, 1, 1, 2, 0);
        edge(1, "over", 2, 0, 1, 99, 99, 0);
        check.says("there are in another one, too. NONE: 1.");
        edge(1, "common", 0, 0, 2, 0, 0);
        edge(1, "common", 1, 0, 2, 0, 0);
    }

    private static void actsOnRunners() throws Exception {
        check.says("its place. NONE: 1; 2 (CODE, TIME START .. FINISH); 3 (he has 16).");
        taken("add", 0, 1, 10);
        taken("add", 3, 1, 9);
        notTheseOnes("add", 4, 1, 9);
        edge(2, "add", 1, 1, 99, 0, 1, 10);
        edge(2, "add", 2, 10, 60, 0, 1, 10);
        edge(2, "add", 2, 4, 9, 3, 1, 9);
        refused(RefusalsTest::full, 3, "add", 0, 1, 5);
        refused(RefusalsTest::full, 3, "add", 0, 99, 9);
        check.says("ACT: PUNCH k goes: its CODE. NONE: 1.");
        edge(1, "drop", 0, 0, 2, 0, 0);
        edge(1, "drop", 1, 0, 2, 0, 0);
        edge(1, "drop", 1, 0, 1, 1, 0);
        refused(1, "drop", 3, 0);
        check.says("START of a RUNNER is t: what it was. NONE: 1; 2 (0 .. FINISH less 1); 5 (a PUNCH is before that).");
        edge(1, "start", 0, 0, 3, 0, 0);
        edge(2, "start", 1, 0, 8, 3, 0);
        taken("start", 0, 20);
        refused(5, "start", 0, 21);
        refused(5, "start", 0, 59);
        refused(2, "start", 0, 60);
        check.says("FINISH of a RUNNER is t: what it was. NONE: 1; 2 (START and 1 .. 9,999); 5 (a PUNCH is behind that).");
        edge(1, "finish", 0, 0, 3, 0, 9999);
        edge(2, "finish", 1, 5, 9999, 3, 5);
        taken("finish", 0, 40);
        refused(5, "finish", 0, 39);
        refused(5, "finish", 0, 11);
        refused(2, "finish", 0, 10);
        check.says("ACT: a RUNNER is of a COURSE: of which he was. NONE: 1.");
        edge(1, "move", 0, 0, 3, 0, 1);
        edge(1, "move", 1, 0, 2, 0, 0);
    }

    private static void actsOnCourses() throws Exception {
        check.says("ACT: gap (what 0), slack (1) is v (0 .. 600): what it was. NONE: 1 (no TEXT, what); 2.");
        edge(1, "become", 0, 0, 1, 0, 5);
        edge(2, "become", 1, 0, 600, 0, 0);
        edge(2, "become", 1, 0, 600, 1, 0);
        check.says("has a CODE (1 .. 99): what it had. NONE: 1; 2; 5 (one beside it has that CODE).");
        edge(1, "recode", 0, 0, 2, 0, 0, 77);
        edge(1, "recode", 1, 0, 2, 0, 0, 77);
        edge(1, "recode", 1, 0, 1, 1, 0, 77);
        edge(1, "recode", 1, 0, 0, 2, 0, 77);
        edge(2, "recode", 2, 1, 99, 2, 0, 1);
        refused(5, "recode", 0, 0, 2);
        refused(5, "recode", 0, 1, 1);
        refused(5, "recode", 0, 1, 3);
        refused(5, "recode", 0, 2, 2);
        taken("recode", 0, 0, 3);
        taken("recode", 0, 2, 1);
        taken("recode", 0, 1, 2);
        check.says("how many CONTROLS are left. NONE: 1; 5 (it is the only one; those beside it would be alike).");
        taken("cancel", 0, 0);
        taken("cancel", 1, 0);
        notTheseOnes("cancel", 3, 0);
        edge(1, "cancel", 1, 0, 2, 0, 0);
        edge(1, "cancel", 1, 0, 1, 1, 0);
        refused(5, "cancel", 2, 0);
        refused(1, "cancel", 2, 1);
        Supplier<ForestLegs> alike = () -> {
            ForestLegs x = made();
            x.recode(0, 0, 3);
            x.text(0);
            Check.tell(x, "gap 1;gap 2");
            Check.feed(x, "ann");
            return x;
        };
        refused(alike, 5, "cancel", 0, 1);
    }

    private static void undo() throws Exception {
        check.says("how many still can be. NONE: 1 (no TEXT); 5.");
        refused(RefusalsTest::empty, 1, "undo");
        refused(RefusalsTest::noRunner, 5, "undo");
        ForestLegs x = made();
        check.answered("undo()", x, x.undo(), 1);
        check.answered("undo()", x, x.undo(), 0);
        check.refused("undo()", x, x.undo(), 5);
        check.due("fault()", x.fault(), 3);
        check.due("size()", x.size(), 20);
    }

    private static void text() throws Exception {
        check.says("are THE TEXT: all that there was is gone: how many RUNNERS. NONE: 2 (n); 4.");
        for (int n : new int[] {-1, 21, 900, 901, LOWEST, HIGHEST}) {
            refused(2, "text", n);
            refused(RefusalsTest::empty, 2, "text", n);
        }
        for (int n = 0; n <= 20; n++) {
            ForestLegs x = made();
            check.due("text(" + n + ") of a name", x.text(n), -1);
            check.due("trouble()", x.trouble(), 4);
            check.due("fault()", x.fault(), 1);
            check.due("where()", x.where(), 0);
            check.due("size()", x.size(), 0);
            check.due("the state", Check.state(x), Check.state(made()));
        }
    }

    private static void noText() throws Exception {
        check.says("1 there is none such (no TEXT, COURSE, RUNNER, CONTROL, POINT, LEG, PUNCH, what)");
        String calls = "about 1,course 2,code 2,runner 2,punch 3,misses 2,fits 1,missed 1,split 3,leg 3,best 3,leads 2,changes 1,"
            + "ranked 2,lost 1,worst 1,pace 2,mistakes 1,clean 1,cleanPlace 2,without 3,hardest 2,packs 1,pack 3,together 2,alone 1,"
            + "chase 3,team 2,mate 1,passes 2,crowd 1,over 3,common 2,add 3,drop 2,start 2,finish 2,move 2,become 2,recode 3,cancel 2,undo 0";
        for (String row : calls.split(",")) {
            int[] values = new int[Integer.parseInt(row.split(" ")[1])];
            for (int value : new int[] {0, 1, -1, 1000, LOWEST, HIGHEST}) {
                Arrays.fill(values, value);
                refused(RefusalsTest::empty, 1, row.split(" ")[0], values);
            }
        }
    }

    private static void severalOnes() throws Exception {
        check.says("Of several the one that the call tells first.");
        refused(1, "pack", 0, -1, 0);
        refused(1, "pack", 100, 0, 4);
        refused(1, "over", 0, 0, 2);
        refused(1, "over", 100, 100, -1);
        refused(1, "chase", 0, 0, 3);
        refused(1, "chase", 0, 2, -1);
        refused(1, "chase", 4, 4, 0);
        refused(1, "pace", 3, 2);
        refused(1, "add", 4, 0, -1);
        refused(RefusalsTest::full, 1, "add", 1, 1, 5);
        refused(RefusalsTest::full, 2, "add", 0, 0, 5);
        refused(RefusalsTest::full, 2, "add", 0, 100, 5);
        refused(RefusalsTest::full, 2, "add", 0, 1, 10);
        refused(RefusalsTest::full, 2, "add", 0, 1, -1);
        refused(1, "start", 4, -1);
        refused(2, "start", 0, 60);
        refused(1, "finish", 4, -1);
        refused(2, "finish", 0, 10);
        refused(1, "become", 2, 601);
        refused(1, "recode", 0, 3, 0);
        refused(1, "recode", 3, 0, 100);
        refused(1, "cancel", 2, -1);
        refused(1, "together", -1, -1);
        refused(1, "team", 4, 4);
        refused(1, "passes", 4, 4);
    }
}
