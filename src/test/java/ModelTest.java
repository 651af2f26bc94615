import java.lang.reflect.Method;
import java.util.ArrayList;
import java.util.List;

/** Long rows of calls, drawn by a fixed rule, on ForestLegs and on the slow model: every answer has to be the same. */
final class ModelTest {
    private static final Check check = new Check();
    private static long seed = 20261118;

    private static int draw(int below) {
        seed = seed * 6364136223846793005L + 1442695040888963407L;
        return (int) ((seed >>> 33) % below);
    }

    private static boolean chance(int percent) {
        return draw(100) < percent;
    }

    public static void main(String[] args) throws Exception {
        int runs = args.length > 0 ? Integer.parseInt(args[0]) : 250;
        for (int run = 0; run < runs; run++) {
            run(run);
        }
        for (int run = 0; run < 20 * runs; run++) {
            faultyText(run);
        }
        check.end();
    }

    // texts

    private static int codes = 5;

    private static List<Integer> course() {
        List<Integer> row = new ArrayList<>();
        int controls = 1 + draw(chance(30) ? 10 : 6);
        while (row.size() < controls) {
            int code = 31 + draw(codes);
            if (row.isEmpty() || row.get(row.size() - 1) != code) {
                row.add(code);
            }
        }
        return row;
    }

    private static String runner(String name, String course, List<Integer> codesOfCourse) {
        int start = draw(chance(50) ? 10 : 100);
        int time = start;
        int step = 1 + draw(30);
        StringBuilder row = new StringBuilder();
        int punches = 0;
        int strays = chance(25) ? 60 : 12;
        for (int code : codesOfCourse) {
            for (int more = 0; more < 4 && punches < 16; more++) {
                boolean stray = chance(strays);
                if (more == 0 ? chance(10) : !stray) {
                    continue;
                }
                time += draw(step);
                row.append(punches == 0 ? ":" : ",").append(stray && more > 0 ? 31 + draw(codes) : code).append(' ').append(time);
                punches++;
            }
        }
        return "runner " + name + " " + course + " " + start + " " + (time + 1 + draw(step)) + row;
    }

    private static String text() {
        codes = 3 + draw(6);
        StringBuilder all = new StringBuilder();
        int courses = 1 + draw(3);
        List<List<Integer>> rows = new ArrayList<>();
        for (int c = 0; c < courses; c++) {
            rows.add(course());
            all.append(c == 0 ? "" : ";").append("course ").append((char) ('a' + c)).append(' ');
            all.append(rows.get(c).toString().replaceAll("[\\[\\] ]", ""));
        }
        if (chance(70)) {
            all.append(";gap ").append(draw(chance(80) ? 20 : 601));
        }
        if (chance(70)) {
            all.append(";slack ").append(draw(chance(80) ? 15 : 601));
        }
        int runners = draw(11);
        for (int r = 0; r < runners; r++) {
            int c = draw(courses);
            int ran = chance(85) ? c : draw(courses);
            String row = ";" + runner("r" + (char) ('a' + r), "" + (char) ('a' + c), rows.get(ran));
            if (all.length() + row.length() <= 900) {
                all.append(row);
            }
        }
        return all.toString();
    }

    /** A text with a byte or two changed, a piece taken out or put in twice. */
    private static String spoilt(String text) {
        StringBuilder all = new StringBuilder(text);
        for (int times = 1 + draw(2); times > 0; times--) {
            int at = draw(all.length());
            switch (draw(5)) {
                case 0:
                    all.setCharAt(at, " ;,:a9?z0".charAt(draw(9)));
                    break;
                case 1:
                    all.delete(at, Math.min(all.length(), at + 1 + draw(12)));
                    break;
                case 2:
                    all.insert(at, all.substring(at, Math.min(all.length(), at + draw(40))));
                    break;
                case 3:
                    all.insert(at, new String[] {"course", ";gap 5", "runner", "100", "0", " ", "slack", ",31 9", ",7"}[draw(9)]);
                    break;
                default:
                    all.setLength(at);
                    break;
            }
            if (all.length() == 0 || all.length() > 880) {
                return text;
            }
        }
        return all.toString();
    }

    private static void feedBoth(ForestLegs x, Model y, String text) {
        for (int from = 0; from < text.length(); from += 20) {
            int[] five = new int[5];
            for (int i = 0; i < 20; i++) {
                five[i / 4] = five[i / 4] << 8 | (from + i < text.length() ? text.charAt(from + i) : ' ');
            }
            check.due("feed", x.feed(five[0], five[1], five[2], five[3], five[4]), y.feed(five[0], five[1], five[2], five[3], five[4]));
        }
    }

    private static void faultyText(int run) {
        ForestLegs x = new ForestLegs();
        Model y = new Model();
        String text = spoilt(text());
        feedBoth(x, y, text);
        check.due("spoilt text " + run + " '" + text + "'", x.text(text.length()), y.text(text.length()));
        check.due("its fault " + run + " '" + text + "'", x.fault() * 1000 + x.where(), y.fault() * 1000 + y.where());
    }

    // calls

    private static int argument(String method, int place) {
        if (chance(2)) {
            return new int[] {Integer.MIN_VALUE, Integer.MAX_VALUE, -2, 100, 65536, 601, 10000}[draw(7)];
        }
        boolean code = method.equals("over") && place < 2 || method.startsWith("pack") && place == 0
            || method.equals("add") && place == 1 || method.equals("recode") && place == 2;
        if (code) {
            return chance(95) ? 31 + draw(codes) : draw(102);
        }
        boolean time = method.equals("add") && place == 2 || (method.equals("start") || method.equals("finish")) && place == 1;
        if (time) {
            return draw(chance(70) ? 150 : 400);
        }
        if (method.equals("become") && place == 1) {
            return draw(chance(80) ? 20 : 602);
        }
        if (method.equals("about") || method.equals("runner") && place == 1) {
            return draw(11) - (chance(5) ? 1 : 0);
        }
        if (place == 2) {
            return draw(4) - (chance(3) ? 1 : 0);
        }
        return chance(4) ? -1 : draw(chance(50) ? 3 : 10);
    }

    private static void run(int run) throws Exception {
        ForestLegs x = new ForestLegs();
        Model y = new Model();
        if (chance(95)) {
            String text = text();
            feedBoth(x, y, text);
            check.due("run " + run + ": text '" + text + "'", x.text(text.length()), y.text(text.length()));
            check.due("run " + run + ": fault of '" + text + "'", x.fault(), 0);
        }
        Method[] methods = Model.class.getMethods();
        java.util.Arrays.sort(methods, (a, b) -> a.getName().compareTo(b.getName()));
        List<Method> ours = new ArrayList<>();
        for (Method method : methods) {
            if (method.getDeclaringClass() == Model.class) {
                ours.add(method);
            }
        }
        for (int call = 0; call < 400; call++) {
            Method method = ours.get(draw(ours.size()));
            String name = method.getName();
            if (name.equals("undo") && chance(50) || name.equals("text") && chance(90) || name.equals("feed")) {
                continue;
            }
            if (name.equals("text")) {
                String text = chance(50) ? text() : spoilt(text());
                feedBoth(x, y, text);
            }
            Object[] values = new Object[method.getParameterCount()];
            for (int i = 0; i < values.length; i++) {
                values[i] = name.equals("text") ? x.size() - draw(20) * draw(2) : argument(name, i);
            }
            int want = (Integer) method.invoke(y, values);
            int got = (Integer) ForestLegs.class.getMethod(name, method.getParameterTypes()).invoke(x, values);
            String row = "run " + run + ", call " + call + ": " + name + java.util.Arrays.toString(values);
            check.due(row, got, want);
            check.due(row + ": trouble()", x.trouble(), y.trouble());
            check.due(row + ": where()", x.where(), y.where());
            check.due(row + ": fault()", x.fault(), y.fault());
            check.due(row + ": size()", x.size(), y.size());
        }
        name(x, y, run);
    }

    private static void name(ForestLegs x, Model y, int run) {
        x.text(0);
        y.text(0);
        String name = Check.repeat(" ", draw(3)) + (chance(70) ? "r" + (char) ('a' + draw(10)) : "" + (char) ('a' + draw(4)));
        feedBoth(x, y, name);
        for (int n = -1; n <= 21; n++) {
            check.due("run " + run + ": named(" + n + ") of '" + name + "'", Check.named(x, n, n % 2 == 0), y.named(n, n % 2 == 0));
            check.due("run " + run + ": named(" + n + ") of '" + name + "'", Check.named(x, n, n % 2 != 0), y.named(n, n % 2 != 0));
        }
    }
}
