import java.util.ArrayList;
import java.util.Comparator;
import java.util.HashMap;
import java.util.HashSet;
import java.util.List;
import java.util.Map;
import java.util.Set;

/** The document once more, slow and by the Java library, to hold against ForestLegs call by call. */
final class Model {
    private record Token(char kind, String text, int place) { }

    private record Punch(int code, int time) { }

    private record Taken(int time, int runner, int place) { }

    private static final class Fault extends Exception {
        private static final long serialVersionUID = 1;
        final int number;
        final int place;

        Fault(int number, int place) {
            this.number = number;
            this.place = place;
        }
    }

    private static final class Track {
        final String name;
        final List<Integer> codes = new ArrayList<>();

        Track(String name) {
            this.name = name;
        }
    }

    private static final class Person {
        final String name;
        int track;
        int start;
        int finish;
        final List<Punch> punches = new ArrayList<>();

        Person(String name) {
            this.name = name;
        }
    }

    private static final class State {
        int gap = 10;
        int slack = 20;
        final List<Track> tracks = new ArrayList<>();
        final List<Person> people = new ArrayList<>();

        State copy() {
            State other = new State();
            other.gap = gap;
            other.slack = slack;
            for (Track track : tracks) {
                Track one = new Track(track.name);
                one.codes.addAll(track.codes);
                other.tracks.add(one);
            }
            for (Person person : people) {
                Person one = new Person(person.name);
                one.track = person.track;
                one.start = person.start;
                one.finish = person.finish;
                one.punches.addAll(person.punches);
                other.people.add(one);
            }
            return other;
        }
    }

    private final StringBuilder tape = new StringBuilder();
    private State now = null;
    private final List<State> before = new ArrayList<>();
    private int trouble = 0;
    private int where = -1;
    private int fault = 0;

    private int no(int number) {
        trouble = number;
        where = -1;
        return -1;
    }

    private int yes(int answer) {
        trouble = 0;
        where = -1;
        return answer;
    }

    public int size() {
        return tape.length();
    }

    public int trouble() {
        return trouble;
    }

    public int where() {
        return where;
    }

    public int fault() {
        return fault;
    }

    // texts

    public int feed(int a, int b, int c, int d, int e) {
        if (tape.length() > 880) {
            return -1;
        }
        for (int four : new int[] {a, b, c, d, e}) {
            tape.append((char) (four >> 24 & 255)).append((char) (four >> 16 & 255));
            tape.append((char) (four >> 8 & 255)).append((char) (four & 255));
        }
        return tape.length();
    }

    public int text(int n) {
        if (n < 0 || n > tape.length()) {
            return no(2);
        }
        String all = tape.substring(0, n);
        tape.setLength(0);
        try {
            now = read(tokens(all));
            before.clear();
            fault = 0;
            return yes(now.people.size());
        } catch (Fault f) {
            fault = f.number;
            no(4);
            where = f.place;
            return -1;
        }
    }

    /** Kinds: w word, d whole, the sign itself, ? none, $ the end. */
    private static List<Token> tokens(String all) {
        List<Token> row = new ArrayList<>();
        java.util.regex.Matcher m = java.util.regex.Pattern.compile("[a-z]+|[0-9]+|[^ ]", java.util.regex.Pattern.DOTALL).matcher(all);
        while (m.find()) {
            String text = m.group();
            char first = text.charAt(0);
            char kind = first;
            if (first >= 'a' && first <= 'z') {
                kind = text.length() > 6 ? '?' : 'w';
            } else if (first >= '0' && first <= '9') {
                kind = text.length() > 4 ? '?' : 'd';
            } else if (first != ';' && first != ',' && first != ':') {
                kind = '?';
            }
            row.add(new Token(kind, text, m.start()));
        }
        row.add(new Token('$', "", all.length()));
        return row;
    }

    private static final Set<String> KEPT = Set.of("course", "runner", "gap", "slack");

    private static int bounded(Token t, int least, int most) throws Fault {
        if (t.kind != 'd') {
            throw new Fault(1, t.place);
        }
        int value = Integer.parseInt(t.text);
        if (value < least || value > most) {
            throw new Fault(2, t.place);
        }
        return value;
    }

    private static State read(List<Token> row) throws Fault {
        State s = new State();
        Set<String> names = new HashSet<>();
        Set<String> widths = new HashSet<>();
        String state = "line";
        Track track = null;
        Person person = null;
        int code = 0;
        String width = "";
        for (Token t : row) {
            boolean name = t.kind == 'w' && !KEPT.contains(t.text);
            switch (state) {
                case "line":
                    if (t.kind != 'w' || !KEPT.contains(t.text)) {
                        throw new Fault(1, t.place);
                    }
                    if ((t.text.equals("gap") || t.text.equals("slack")) && !widths.add(t.text)) {
                        throw new Fault(3, t.place);
                    }
                    if (t.text.equals("course") && s.tracks.size() == 3 || t.text.equals("runner") && s.people.size() == 10) {
                        throw new Fault(4, t.place);
                    }
                    width = t.text;
                    state = t.text.length() == 6 ? t.text + "-name" : "width";
                    break;
                case "course-name":
                case "runner-name":
                    if (!name) {
                        throw new Fault(1, t.place);
                    }
                    if (!names.add(t.text)) {
                        throw new Fault(3, t.place);
                    }
                    if (state.equals("course-name")) {
                        track = new Track(t.text);
                        s.tracks.add(track);
                        state = "code";
                    } else {
                        person = new Person(t.text);
                        s.people.add(person);
                        state = "of";
                    }
                    break;
                case "code":
                    code = bounded(t, 1, 99);
                    if (!track.codes.isEmpty() && track.codes.get(track.codes.size() - 1) == code) {
                        throw new Fault(2, t.place);
                    }
                    if (track.codes.size() == 10) {
                        throw new Fault(4, t.place);
                    }
                    track.codes.add(code);
                    state = "code-end";
                    break;
                case "of":
                    if (!name) {
                        throw new Fault(1, t.place);
                    }
                    person.track = -1;
                    for (int c = 0; c < s.tracks.size(); c++) {
                        person.track = s.tracks.get(c).name.equals(t.text) ? c : person.track;
                    }
                    if (person.track < 0) {
                        throw new Fault(3, t.place);
                    }
                    state = "start";
                    break;
                case "start":
                    person.start = bounded(t, 0, 9998);
                    state = "finish";
                    break;
                case "finish":
                    person.finish = bounded(t, person.start + 1, 9999);
                    state = "finish-end";
                    break;
                case "punch":
                    code = bounded(t, 1, 99);
                    if (person.punches.size() == 16) {
                        throw new Fault(4, t.place);
                    }
                    state = "time";
                    break;
                case "time":
                    int ahead = person.punches.isEmpty() ? person.start : person.punches.get(person.punches.size() - 1).time;
                    person.punches.add(new Punch(code, bounded(t, ahead, person.finish)));
                    state = "time-end";
                    break;
                case "width":
                    int value = bounded(t, 0, 600);
                    if (width.equals("gap")) {
                        s.gap = value;
                    } else {
                        s.slack = value;
                    }
                    state = "line-end";
                    break;
                default:
                    if (t.kind == ';') {
                        state = "line";
                    } else if (t.kind == ',' && state.equals("code-end")) {
                        state = "code";
                    } else if (t.kind == ',' && state.equals("time-end") || t.kind == ':' && state.equals("finish-end")) {
                        state = "punch";
                    } else if (t.kind != '$') {
                        throw new Fault(1, t.place);
                    } else if (s.tracks.isEmpty()) {
                        throw new Fault(5, t.place);
                    }
                    break;
            }
        }
        return s;
    }

    // MATCH

    /** Of each CONTROL the PUNCH that takes it, 1000 where it is MISSED. */
    private static int[] match(List<Integer> codes, List<Punch> punches) {
        return match(codes, punches, 0, 0, new HashMap<>());
    }

    private static int[] match(List<Integer> codes, List<Punch> punches, int i, int from, Map<Integer, int[]> known) {
        if (i == codes.size()) {
            return new int[0];
        }
        int key = i * 100 + from;
        if (known.containsKey(key)) {
            return known.get(key);
        }
        int[] best = null;
        for (int k = from; k <= punches.size(); k++) {
            boolean takes = k < punches.size();
            if (takes && punches.get(k).code != codes.get(i)) {
                continue;
            }
            int[] rest = match(codes, punches, i + 1, takes ? k + 1 : from, known);
            int[] way = new int[rest.length + 1];
            way[0] = takes ? k : 1000;
            System.arraycopy(rest, 0, way, 1, rest.length);
            if (best == null || taken(way) > taken(best) || taken(way) == taken(best) && java.util.Arrays.compare(way, best) < 0) {
                best = way;
            }
        }
        known.put(key, best);
        return best;
    }

    private static int taken(int[] way) {
        int count = 0;
        for (int k : way) {
            count += k < 1000 ? 1 : 0;
        }
        return count;
    }

    private boolean isTrack(int c) {
        return now != null && c >= 0 && c < now.tracks.size();
    }

    private boolean isPerson(int r) {
        return now != null && r >= 0 && r < now.people.size();
    }

    private Person person(int r) {
        return now.people.get(r);
    }

    private int[] matchOf(int r) {
        return match(now.tracks.get(person(r).track).codes, person(r).punches);
    }

    private int controls(int c) {
        return now.tracks.get(c).codes.size();
    }

    private boolean valid(int r) {
        return taken(matchOf(r)) == controls(person(r).track);
    }

    private int total(int r) {
        return person(r).finish - person(r).start;
    }

    private List<Integer> of(int c) {
        List<Integer> row = new ArrayList<>();
        for (int r = 0; r < now.people.size(); r++) {
            if (person(r).track == c) {
                row.add(r);
            }
        }
        return row;
    }

    private List<Integer> validOf(int c) {
        List<Integer> row = of(c);
        row.removeIf(r -> !valid(r));
        return row;
    }

    private Integer time(int r, int i) {
        int n = controls(person(r).track);
        if (i == -1) {
            return person(r).start;
        }
        if (i == n) {
            return person(r).finish;
        }
        int k = matchOf(r)[i];
        return k == 1000 ? null : (Integer) person(r).punches.get(k).time;
    }

    private Integer legTime(int r, int i) {
        Integer to = time(r, i);
        Integer from = time(r, i - 1);
        return to == null || from == null ? null : (Integer) (to - from);
    }

    private Integer splitTime(int r, int i) {
        Integer at = time(r, i);
        return at == null ? null : (Integer) (at - person(r).start);
    }

    /** RUNNERS of a COURSE who have a LEG (or a SPLIT), the least first, of like ones the least RUNNER. */
    private List<Integer> byLeg(int c, int i, boolean split) {
        List<Integer> row = of(c);
        row.removeIf(r -> (split ? splitTime(r, i) : legTime(r, i)) == null);
        row.sort(Comparator.comparing(r -> split ? splitTime(r, i) : legTime(r, i)));
        return row;
    }

    private Integer bestTime(int c, int i) {
        List<Integer> row = byLeg(c, i, false);
        return row.isEmpty() ? null : legTime(row.get(0), i);
    }

    private int least(int c) {
        return validOf(c).stream().mapToInt(this::total).min().orElse(-2);
    }

    // what is told

    public int about(int what) {
        if (now == null || what < 0 || what > 6) {
            return no(1);
        }
        int punches = now.people.stream().mapToInt(p -> p.punches.size()).sum();
        int valid = 0;
        for (int r = 0; r < now.people.size(); r++) {
            valid += valid(r) ? 1 : 0;
        }
        return yes(new int[] {now.tracks.size(), now.people.size(), now.gap, now.slack, punches, valid, before.size()}[what]);
    }

    public int course(int c, int what) {
        if (!isTrack(c) || what < 0 || what > 4) {
            return no(1);
        }
        int ideal = 0;
        for (int i = 0; i <= controls(c); i++) {
            Integer best = bestTime(c, i);
            ideal = best == null || ideal < 0 ? -2 : ideal + best;
        }
        return yes(new int[] {controls(c), of(c).size(), validOf(c).size(), ideal, least(c)}[what]);
    }

    public int code(int c, int i) {
        return isTrack(c) && i >= 0 && i < controls(c) ? yes(now.tracks.get(c).codes.get(i)) : no(1);
    }

    public int runner(int r, int what) {
        if (!isPerson(r) || what < 0 || what > 9) {
            return no(1);
        }
        Person p = person(r);
        int taken = taken(matchOf(r));
        int place = -2;
        int behind = -2;
        if (valid(r)) {
            place = 1 + (int) validOf(p.track).stream().filter(q -> total(q) < total(r)).count();
            behind = total(r) - least(p.track);
        }
        return yes(new int[] {p.track, p.start, p.finish, total(r), p.punches.size(), controls(p.track) - taken,
            p.punches.size() - taken, valid(r) ? 1 : 0, place, behind}[what]);
    }

    public int punch(int r, int k, int what) {
        if (!isPerson(r) || k < 0 || k >= person(r).punches.size() || what < 0 || what > 2) {
            return no(1);
        }
        int takes = -2;
        int[] way = matchOf(r);
        for (int i = 0; i < way.length; i++) {
            takes = way[i] == k ? i : takes;
        }
        return yes(new int[] {person(r).punches.get(k).code, person(r).punches.get(k).time, takes}[what]);
    }

    // who ran what

    public int misses(int r, int c) {
        if (!isPerson(r) || !isTrack(c)) {
            return no(1);
        }
        return yes(controls(c) - taken(match(now.tracks.get(c).codes, person(r).punches)));
    }

    public int fits(int r) {
        if (!isPerson(r)) {
            return no(1);
        }
        List<Integer> row = new ArrayList<>();
        for (int c = 0; c < now.tracks.size(); c++) {
            row.add(c);
        }
        row.sort(Comparator.<Integer>comparingInt(c -> misses(r, c)).thenComparing(c -> -controls(c)));
        return yes(row.get(0));
    }

    public int missed(int r) {
        if (!isPerson(r)) {
            return no(1);
        }
        int bits = 0;
        int[] way = matchOf(r);
        for (int i = 0; i < way.length; i++) {
            bits += way[i] == 1000 ? 1 << i : 0;
        }
        return yes(bits);
    }

    // points and legs

    private boolean isPoint(int c, int i) {
        return isTrack(c) && i >= 0 && i <= controls(c);
    }

    public int split(int r, int i, int what) {
        if (!isPerson(r) || !isPoint(person(r).track, i) || what < 0 || what > 2) {
            return no(1);
        }
        Integer split = splitTime(r, i);
        if (split == null) {
            return yes(-2);
        }
        List<Integer> row = byLeg(person(r).track, i, true);
        int place = 1 + (int) row.stream().filter(q -> splitTime(q, i) < split).count();
        return yes(new int[] {split, place, split - splitTime(row.get(0), i)}[what]);
    }

    public int leg(int r, int i, int what) {
        if (!isPerson(r) || !isPoint(person(r).track, i) || what < 0 || what > 3) {
            return no(1);
        }
        Integer time = legTime(r, i);
        if (time == null) {
            return yes(-2);
        }
        List<Integer> row = byLeg(person(r).track, i, false);
        int place = 1 + (int) row.stream().filter(q -> legTime(q, i) < time).count();
        int best = bestTime(person(r).track, i);
        return yes(new int[] {time, place, time - best, best == 0 ? -2 : mistake(r, i)}[what]);
    }

    public int best(int c, int i, int what) {
        if (!isPoint(c, i) || what < 0 || what > 1) {
            return no(1);
        }
        List<Integer> row = byLeg(c, i, false);
        return yes(row.isEmpty() ? -2 : what == 0 ? legTime(row.get(0), i) : row.get(0));
    }

    public int leads(int c, int i) {
        if (!isPoint(c, i)) {
            return no(1);
        }
        List<Integer> row = byLeg(c, i, true);
        return yes(row.isEmpty() ? -2 : row.get(0));
    }

    public int changes(int c) {
        if (!isTrack(c)) {
            return no(1);
        }
        int count = 0;
        for (int i = 1; i <= controls(c); i++) {
            int first = leads(c, i - 1);
            int second = leads(c, i);
            count += first >= 0 && second >= 0 && first != second ? 1 : 0;
        }
        return yes(count);
    }

    public int ranked(int c, int i) {
        if (!isTrack(c) || i < 0) {
            return no(1);
        }
        List<Integer> row = validOf(c);
        row.sort(Comparator.comparing(this::total));
        return yes(i < row.size() ? row.get(i) : -2);
    }

    // what is lost

    private Integer lostOn(int r, int i) {
        Integer time = legTime(r, i);
        return time == null ? null : (Integer) (time - bestTime(person(r).track, i));
    }

    /** PACE as two numbers, not in lowest terms; null without any. */
    private int[] paceOf(int r) {
        List<int[]> row = new ArrayList<>();
        for (int i = 0; i <= controls(person(r).track); i++) {
            Integer time = legTime(r, i);
            if (time != null && bestTime(person(r).track, i) > 0) {
                row.add(new int[] {time, bestTime(person(r).track, i)});
            }
        }
        row.sort((a, b) -> Long.compare((long) a[0] * b[1], (long) b[0] * a[1]));
        return row.isEmpty() ? null : row.get(row.size() % 2 == 1 ? row.size() / 2 : row.size() / 2 - 1);
    }

    private int mistake(int r, int i) {
        Integer time = legTime(r, i);
        Integer best = bestTime(person(r).track, i);
        if (time == null || best == 0) {
            return 0;
        }
        int[] pace = paceOf(r);
        int due = pace[0] * best / pace[1];
        if (2 * (pace[0] * best % pace[1]) > pace[1]) {
            due++;
        }
        int late = time - due;
        return late >= now.slack && late > 0 ? late : 0;
    }

    private int cleanOf(int r) {
        int sum = total(r);
        for (int i = 0; i <= controls(person(r).track); i++) {
            sum -= mistake(r, i);
        }
        return sum;
    }

    public int lost(int r) {
        if (!isPerson(r)) {
            return no(1);
        }
        int sum = 0;
        for (int i = 0; i <= controls(person(r).track); i++) {
            Integer lost = lostOn(r, i);
            sum += lost == null ? 0 : lost;
        }
        return yes(sum);
    }

    public int worst(int r) {
        if (!isPerson(r)) {
            return no(1);
        }
        int leg = -2;
        for (int i = controls(person(r).track); i >= 0; i--) {
            Integer lost = lostOn(r, i);
            if (lost != null && (leg == -2 || lost >= lostOn(r, leg))) {
                leg = i;
            }
        }
        return yes(leg);
    }

    public int pace(int r, int what) {
        if (!isPerson(r) || what < 0 || what > 1) {
            return no(1);
        }
        int[] pace = paceOf(r);
        if (pace == null) {
            return no(6);
        }
        for (int d = 9999; d > 1; d--) {
            if (pace[0] % d == 0 && pace[1] % d == 0) {
                return yes(pace[what] / d);
            }
        }
        return yes(pace[what]);
    }

    public int mistakes(int r) {
        if (!isPerson(r)) {
            return no(1);
        }
        int bits = 0;
        for (int i = 0; i <= controls(person(r).track); i++) {
            bits += mistake(r, i) > 0 ? 1 << i : 0;
        }
        return yes(bits);
    }

    public int clean(int r) {
        return isPerson(r) ? yes(cleanOf(r)) : no(1);
    }

    public int cleanPlace(int r, int what) {
        if (!isPerson(r) || what < 0 || what > 1) {
            return no(1);
        }
        if (!valid(r)) {
            return yes(-2);
        }
        int place = 1;
        for (int q : validOf(person(r).track)) {
            place += q != r && (what == 0 ? total(q) : cleanOf(q)) < cleanOf(r) ? 1 : 0;
        }
        return yes(place);
    }

    public int without(int c, int leg, int what) {
        if (!isPoint(c, leg) || what < 0 || what > 1) {
            return no(1);
        }
        List<Integer> row = validOf(c);
        row.sort(Comparator.comparing(r -> total(r) - legTime(r, leg)));
        return yes(row.isEmpty() ? -2 : what == 0 ? row.get(0) : total(row.get(0)) - legTime(row.get(0), leg));
    }

    public int hardest(int c, int what) {
        if (!isTrack(c) || what < 0 || what > 1) {
            return no(1);
        }
        int leg = -2;
        int most = -2;
        for (int i = 0; i <= controls(c); i++) {
            int at = i;
            List<Integer> row = byLeg(c, i, false);
            int sum = row.stream().mapToInt(r -> lostOn(r, at)).sum();
            if (!row.isEmpty() && sum > most) {
                most = sum;
                leg = i;
            }
        }
        return yes(what == 0 ? leg : most);
    }

    // who runs with whom

    private List<List<Taken>> packsAt(int code) {
        List<Taken> all = new ArrayList<>();
        for (int r = 0; r < now.people.size(); r++) {
            for (int k : matchOf(r)) {
                if (k < 1000 && person(r).punches.get(k).code == code) {
                    all.add(new Taken(person(r).punches.get(k).time, r, k));
                }
            }
        }
        all.sort(Comparator.comparing(Taken::time).thenComparing(Taken::runner).thenComparing(Taken::place));
        List<List<Taken>> packs = new ArrayList<>();
        Taken ahead = null;
        for (Taken one : all) {
            if (ahead == null || one.time - ahead.time > now.gap) {
                packs.add(new ArrayList<>());
            }
            packs.get(packs.size() - 1).add(one);
            ahead = one;
        }
        packs.removeIf(pack -> pack.size() < 2);
        return packs;
    }

    public int packs(int code) {
        return now == null ? no(1) : code < 1 || code > 99 ? no(2) : yes(packsAt(code).size());
    }

    public int pack(int code, int k, int what) {
        if (now == null || k < 0 || what < 0 || what > 3) {
            return no(1);
        }
        if (code < 1 || code > 99) {
            return no(2);
        }
        List<List<Taken>> packs = packsAt(code);
        if (k >= packs.size()) {
            return yes(-2);
        }
        List<Taken> pack = packs.get(k);
        int bits = 0;
        for (Taken one : pack) {
            bits |= 1 << one.runner;
        }
        return yes(new int[] {pack.size(), bits, pack.get(0).time, pack.get(pack.size() - 1).time}[what]);
    }

    private int pairTrouble(int r, int q) {
        if (!isPerson(r) || !isPerson(q)) {
            return 1;
        }
        return r == q || person(r).track != person(q).track ? 5 : 0;
    }

    private boolean near(int r, int q, int i) {
        Integer one = time(r, i);
        Integer other = time(q, i);
        return one != null && other != null && one - other <= now.gap && other - one <= now.gap;
    }

    public int together(int r, int q) {
        if (pairTrouble(r, q) != 0) {
            return no(pairTrouble(r, q));
        }
        int bits = 0;
        for (int i = 0; i <= controls(person(r).track); i++) {
            bits += near(r, q, i) ? 1 << i : 0;
        }
        return yes(bits);
    }

    public int alone(int r) {
        if (!isPerson(r)) {
            return no(1);
        }
        int bits = 0;
        for (int i = 0; i <= controls(person(r).track); i++) {
            int at = i;
            boolean alone = of(person(r).track).stream().noneMatch(q -> q != r && near(r, q, at));
            bits += time(r, i) != null && alone ? 1 << i : 0;
        }
        return yes(bits);
    }

    public int chase(int r, int q, int what) {
        if (what < 0 || what > 2) {
            return no(1);
        }
        int bits = together(r, q);
        if (bits < 0) {
            return -1;
        }
        int n = controls(person(r).track);
        for (int length = n + 1; length > 0; length--) {
            for (int first = 0; first + length <= n + 1; first++) {
                int mask = (1 << length) - 1 << first;
                if ((bits & mask) == mask) {
                    int last = first + length - 1;
                    int one = time(r, last);
                    int other = time(q, last);
                    int ahead = one < other ? r : other < one ? q : Math.min(r, q);
                    return yes(new int[] {length, first, ahead}[what]);
                }
            }
        }
        return yes(-2);
    }

    public int team(int r, int q) {
        if (pairTrouble(r, q) != 0) {
            return no(pairTrouble(r, q));
        }
        int sum = 0;
        for (int i = 0; i <= controls(person(r).track); i++) {
            Integer one = legTime(r, i);
            Integer other = legTime(q, i);
            if (one == null && other == null) {
                return yes(-2);
            }
            sum += one == null ? other : other == null ? one : Math.min(one, other);
        }
        return yes(sum);
    }

    public int mate(int r) {
        if (!isPerson(r)) {
            return no(1);
        }
        List<Integer> row = of(person(r).track);
        row.removeIf(q -> q == r || team(r, q) == -2);
        row.sort(Comparator.comparing(q -> team(r, q)));
        return yes(row.isEmpty() ? -2 : row.get(0));
    }

    public int passes(int r, int q) {
        if (pairTrouble(r, q) != 0) {
            return no(pairTrouble(r, q));
        }
        int count = 0;
        for (int i = 1; i <= controls(person(r).track); i++) {
            Integer[] four = {time(r, i - 1), time(q, i - 1), time(r, i), time(q, i)};
            boolean all = four[0] != null && four[1] != null && four[2] != null && four[3] != null;
            count += all && four[0] > four[1] && four[2] < four[3] ? 1 : 0;
        }
        return yes(count);
    }

    public int crowd(int what) {
        if (now == null || what < 0 || what > 1) {
            return no(1);
        }
        if (now.people.isEmpty()) {
            return no(6);
        }
        int most = 0;
        int first = 0;
        for (int t = 0; t <= 9999; t++) {
            int count = 0;
            for (Person p : now.people) {
                count += p.start <= t && p.finish > t ? 1 : 0;
            }
            if (count > most) {
                most = count;
                first = t;
            }
        }
        return yes(what == 0 ? most : first);
    }

    // courses beside each other

    public int over(int from, int to, int what) {
        if (now == null || what < 0 || what > 1) {
            return no(1);
        }
        if (from < 1 || from > 99 || to < 1 || to > 99) {
            return no(2);
        }
        int[] least = {-2, -2};
        for (int r = 0; r < now.people.size(); r++) {
            List<Integer> codes = now.tracks.get(person(r).track).codes;
            for (int i = 1; i < codes.size(); i++) {
                Integer time = legTime(r, i);
                boolean so = codes.get(i - 1) == from && codes.get(i) == to && time != null;
                if (so && (least[0] == -2 || time < least[0])) {
                    least = new int[] {time, r};
                }
            }
        }
        return yes(least[what]);
    }

    private Set<String> pairs(int c) {
        Set<String> all = new HashSet<>();
        for (int i = 1; i < controls(c); i++) {
            all.add(now.tracks.get(c).codes.get(i - 1) + "-" + now.tracks.get(c).codes.get(i));
        }
        return all;
    }

    public int common(int c, int d) {
        if (!isTrack(c) || !isTrack(d)) {
            return no(1);
        }
        Set<String> all = pairs(c);
        all.retainAll(pairs(d));
        return yes(all.size());
    }

    // acts

    private void act() {
        before.add(now);
        if (before.size() > 10) {
            before.remove(0);
        }
        now = now.copy();
    }

    public int add(int r, int code, int time) {
        if (!isPerson(r)) {
            return no(1);
        }
        if (code < 1 || code > 99 || time < person(r).start || time > person(r).finish) {
            return no(2);
        }
        if (person(r).punches.size() == 16) {
            return no(3);
        }
        act();
        person(r).punches.add(new Punch(code, time));
        person(r).punches.sort(Comparator.comparing(Punch::time));
        int place = -1;
        for (int k = 0; k < person(r).punches.size(); k++) {
            place += person(r).punches.get(k).time <= time ? 1 : 0;
        }
        return yes(place);
    }

    public int drop(int r, int k) {
        if (!isPerson(r) || k < 0 || k >= person(r).punches.size()) {
            return no(1);
        }
        act();
        return yes(person(r).punches.remove(k).code);
    }

    public int start(int r, int t) {
        if (!isPerson(r)) {
            return no(1);
        }
        if (t < 0 || t > person(r).finish - 1) {
            return no(2);
        }
        if (person(r).punches.stream().anyMatch(p -> p.time < t)) {
            return no(5);
        }
        int was = person(r).start;
        act();
        person(r).start = t;
        return yes(was);
    }

    public int finish(int r, int t) {
        if (!isPerson(r)) {
            return no(1);
        }
        if (t < person(r).start + 1 || t > 9999) {
            return no(2);
        }
        if (person(r).punches.stream().anyMatch(p -> p.time > t)) {
            return no(5);
        }
        int was = person(r).finish;
        act();
        person(r).finish = t;
        return yes(was);
    }

    public int move(int r, int c) {
        if (!isPerson(r) || !isTrack(c)) {
            return no(1);
        }
        int was = person(r).track;
        act();
        person(r).track = c;
        return yes(was);
    }

    public int become(int what, int v) {
        if (now == null || what < 0 || what > 1) {
            return no(1);
        }
        if (v < 0 || v > 600) {
            return no(2);
        }
        int was = what == 0 ? now.gap : now.slack;
        act();
        if (what == 0) {
            now.gap = v;
        } else {
            now.slack = v;
        }
        return yes(was);
    }

    private static boolean alike(List<Integer> codes) {
        for (int i = 1; i < codes.size(); i++) {
            if (codes.get(i - 1).equals(codes.get(i))) {
                return true;
            }
        }
        return false;
    }

    public int recode(int c, int i, int code) {
        if (!isTrack(c) || i < 0 || i >= controls(c)) {
            return no(1);
        }
        if (code < 1 || code > 99) {
            return no(2);
        }
        List<Integer> then = new ArrayList<>(now.tracks.get(c).codes);
        int was = then.set(i, code);
        if (alike(then)) {
            return no(5);
        }
        act();
        now.tracks.get(c).codes.set(i, code);
        return yes(was);
    }

    public int cancel(int c, int i) {
        if (!isTrack(c) || i < 0 || i >= controls(c)) {
            return no(1);
        }
        List<Integer> then = new ArrayList<>(now.tracks.get(c).codes);
        then.remove(i);
        if (then.isEmpty() || alike(then)) {
            return no(5);
        }
        act();
        now.tracks.get(c).codes.remove(i);
        return yes(then.size());
    }

    public int undo() {
        if (now == null) {
            return no(1);
        }
        if (before.isEmpty()) {
            return no(5);
        }
        now = before.remove(before.size() - 1);
        return yes(before.size());
    }

    /** -1000 where ForestLegs throws. */
    int named(int n, boolean course) {
        if (n < 0 || n > tape.length() || now == null) {
            return -1000;
        }
        String name = tape.substring(0, n).replaceAll("^ +| +$", "");
        for (int i = 0; i < (course ? now.tracks.size() : now.people.size()); i++) {
            if (name.equals(course ? now.tracks.get(i).name : person(i).name)) {
                return i;
            }
        }
        return -1000;
    }
}
