import java.util.Arrays;
import java.util.NoSuchElementException;

/**
 * Forest controls: courses told as rows of codes, runners with their punches, and what follows from them.
 * The words in capitals are those of the document.
 */
public final class ForestLegs {
    public static final int NONE = -1;

    /** Answered where a call is right but there is nothing to tell. */
    private static final int LACKING = -2;

    private static final int TAPE_BYTES = 900;
    private static final int MOST_COURSES = 3;
    private static final int MOST_CONTROLS = 10;
    private static final int MOST_LEGS = MOST_CONTROLS + 1;
    private static final int MOST_RUNNERS = 10;
    private static final int MOST_PUNCHES = 16;
    private static final int MOST_ACTS = 10;
    private static final int HIGHEST_CODE = 99;
    private static final int LATEST_TIME = 9999;
    private static final int WIDEST = 600;
    private static final int GAP = 0;
    private static final int SLACK = 1;
    private static final int GAP_UNTOLD = 10;
    private static final int SLACK_UNTOLD = 20;

    private static final int NONE_SUCH = 1;
    private static final int WRONG_NUMBER = 2;
    private static final int NO_ROOM = 3;
    private static final int FAULTY = 4;
    private static final int NOT_SO = 5;
    private static final int THERE_IS_NONE = 6;

    private final Tape tape = new Tape();
    private final Meet draft = new Meet();
    private final Reader reader = new Reader(tape, draft);
    private final Meet meet = new Meet();
    private final Legs legs = new Legs(meet);
    private final Paces paces = new Paces(meet, legs);
    private final Packs packsAtCode = new Packs(meet);
    private final Pairs pairs = new Pairs(meet);
    private final Acts acts = new Acts(meet);
    private int refusal = 0;
    private int faultPlace = NONE;
    private int latestFault = 0;

    public ForestLegs() {
    }

    // ---- texts

    public int feed(int a, int b, int c, int d, int e) {
        if (tape.length + 20 > TAPE_BYTES) {
            return NONE;
        }
        tape.put(a);
        tape.put(b);
        tape.put(c);
        tape.put(d);
        tape.put(e);
        return tape.length;
    }

    public int text(int n) {
        if (n < 0 || n > tape.length) {
            return refused(WRONG_NUMBER);
        }
        boolean sound = reader.read(n);
        tape.length = 0;
        latestFault = reader.found;
        if (!sound) {
            refused(FAULTY);
            faultPlace = reader.place;
            return NONE;
        }
        meet.copyFrom(draft);
        acts.forget();
        return answered(meet.runners);
    }

    public int fault() {
        return latestFault;
    }

    public int where() {
        return faultPlace;
    }

    // ---- what is told

    public int about(int what) {
        if (!meet.isTold() || what < 0 || what > 6) {
            return refused(NONE_SUCH);
        }
        switch (what) {
            case 0:
                return answered(meet.courses);
            case 1:
                return answered(meet.runners);
            case 2:
                return answered(meet.gap);
            case 3:
                return answered(meet.slack);
            case 4:
                return answered(meet.allPunches());
            case 5:
                return answered(meet.allValid());
            default:
                return answered(acts.kept);
        }
    }

    public int course(int c, int what) {
        if (!meet.hasCourse(c) || what < 0 || what > 4) {
            return refused(NONE_SUCH);
        }
        switch (what) {
            case 0:
                return answered(meet.courseAt(c).controls);
            case 1:
                return answered(meet.runnersOf(c));
            case 2:
                return answered(meet.validOf(c));
            case 3:
                return answered(legs.ideal(c));
            default:
                return answered(meet.leastTotal(c));
        }
    }

    public int code(int c, int i) {
        if (!meet.hasControl(c, i)) {
            return refused(NONE_SUCH);
        }
        return answered(meet.courseAt(c).codeAt(i));
    }

    public int runner(int r, int what) {
        if (!meet.hasRunner(r) || what < 0 || what > 9) {
            return refused(NONE_SUCH);
        }
        Runner one = meet.runnerAt(r);
        switch (what) {
            case 0:
                return answered(one.course);
            case 1:
                return answered(one.start);
            case 2:
                return answered(one.finish);
            case 3:
                return answered(one.total());
            case 4:
                return answered(one.punches);
            case 5:
                return answered(one.controls - one.taken);
            case 6:
                return answered(one.punches - one.taken);
            case 7:
                return answered(one.isValid() ? 1 : 0);
            case 8:
                return answered(one.isValid() ? legs.placeByTotal(one, one.total()) : LACKING);
            default:
                return answered(one.isValid() ? one.total() - meet.leastTotal(one.course) : LACKING);
        }
    }

    public int punch(int r, int k, int what) {
        if (!meet.hasPunch(r, k) || what < 0 || what > 2) {
            return refused(NONE_SUCH);
        }
        Runner one = meet.runnerAt(r);
        switch (what) {
            case 0:
                return answered(one.codeOf(k));
            case 1:
                return answered(one.timeOf(k));
            default:
                return answered(one.controlOf(k) == NONE ? LACKING : one.controlOf(k));
        }
    }

    // ---- who ran what

    public int misses(int r, int c) {
        if (!meet.hasRunner(r) || !meet.hasCourse(c)) {
            return refused(NONE_SUCH);
        }
        return answered(meet.missesOn(meet.runnerAt(r), c));
    }

    public int fits(int r) {
        if (!meet.hasRunner(r)) {
            return refused(NONE_SUCH);
        }
        return answered(meet.fittest(meet.runnerAt(r)));
    }

    public int missed(int r) {
        if (!meet.hasRunner(r)) {
            return refused(NONE_SUCH);
        }
        return answered(meet.runnerAt(r).missedBits());
    }

    // ---- points and legs

    public int split(int r, int i, int what) {
        if (!meet.hasRunnerPoint(r, i) || what < 0 || what > 2) {
            return refused(NONE_SUCH);
        }
        Runner one = meet.runnerAt(r);
        if (one.timeAt(i) == NONE) {
            return answered(LACKING);
        }
        switch (what) {
            case 0:
                return answered(one.splitAt(i));
            case 1:
                return answered(legs.placeAtPoint(one, i));
            default:
                return answered(one.splitAt(i) - legs.leastSplit(one.course, i));
        }
    }

    public int leg(int r, int i, int what) {
        if (!meet.hasRunnerPoint(r, i) || what < 0 || what > 3) {
            return refused(NONE_SUCH);
        }
        Runner one = meet.runnerAt(r);
        if (one.legTime(i) == NONE) {
            return answered(LACKING);
        }
        switch (what) {
            case 0:
                return answered(one.legTime(i));
            case 1:
                return answered(legs.placeOnLeg(one, i));
            case 2:
                return answered(legs.lostOn(one, i));
            default:
                paces.reckon(one);
                return answered(paces.isPaced(i) ? paces.mistakeOn(i) : LACKING);
        }
    }

    public int best(int c, int i, int what) {
        if (!meet.hasPoint(c, i) || what < 0 || what > 1) {
            return refused(NONE_SUCH);
        }
        int who = legs.bestRunner(c, i);
        if (who == NONE) {
            return answered(LACKING);
        }
        return answered(what == 0 ? legs.bestTime(c, i) : who);
    }

    public int leads(int c, int i) {
        if (!meet.hasPoint(c, i)) {
            return refused(NONE_SUCH);
        }
        int who = legs.leader(c, i);
        return answered(who == NONE ? LACKING : who);
    }

    public int changes(int c) {
        if (!meet.hasCourse(c)) {
            return refused(NONE_SUCH);
        }
        return answered(legs.leadChanges(c));
    }

    public int ranked(int c, int i) {
        if (!meet.hasCourse(c) || i < 0) {
            return refused(NONE_SUCH);
        }
        return answered(legs.rankedAs(c, i));
    }

    // ---- what is lost

    public int lost(int r) {
        if (!meet.hasRunner(r)) {
            return refused(NONE_SUCH);
        }
        return answered(legs.lostInAll(meet.runnerAt(r)));
    }

    public int worst(int r) {
        if (!meet.hasRunner(r)) {
            return refused(NONE_SUCH);
        }
        return answered(legs.worstLeg(meet.runnerAt(r)));
    }

    public int pace(int r, int what) {
        if (!meet.hasRunner(r) || what < 0 || what > 1) {
            return refused(NONE_SUCH);
        }
        if (!paces.reckon(meet.runnerAt(r))) {
            return refused(THERE_IS_NONE);
        }
        return answered(what == 0 ? paces.above : paces.below);
    }

    public int mistakes(int r) {
        if (!meet.hasRunner(r)) {
            return refused(NONE_SUCH);
        }
        return answered(paces.mistakeBits(meet.runnerAt(r)));
    }

    public int clean(int r) {
        if (!meet.hasRunner(r)) {
            return refused(NONE_SUCH);
        }
        return answered(paces.cleanTime(meet.runnerAt(r)));
    }

    public int cleanPlace(int r, int what) {
        if (!meet.hasRunner(r) || what < 0 || what > 1) {
            return refused(NONE_SUCH);
        }
        Runner one = meet.runnerAt(r);
        if (!one.isValid()) {
            return answered(LACKING);
        }
        int time = paces.cleanTime(one);
        return answered(what == 0 ? legs.placeByTotal(one, time) : paces.placeByClean(one, time));
    }

    public int without(int c, int leg, int what) {
        if (!meet.hasPoint(c, leg) || what < 0 || what > 1) {
            return refused(NONE_SUCH);
        }
        int who = legs.firstWithout(c, leg);
        if (who == NONE) {
            return answered(LACKING);
        }
        return answered(what == 0 ? who : meet.runnerAt(who).totalWithout(leg));
    }

    public int hardest(int c, int what) {
        if (!meet.hasCourse(c) || what < 0 || what > 1) {
            return refused(NONE_SUCH);
        }
        int leg = legs.hardestLeg(c);
        if (leg == NONE) {
            return answered(LACKING);
        }
        return answered(what == 0 ? leg : legs.lostByAll(c, leg));
    }

    // ---- who runs with whom

    public int packs(int code) {
        if (!meet.isTold()) {
            return refused(NONE_SUCH);
        }
        if (!isCode(code)) {
            return refused(WRONG_NUMBER);
        }
        packsAtCode.gather(code);
        return answered(packsAtCode.seek(NONE));
    }

    public int pack(int code, int k, int what) {
        if (!meet.isTold() || k < 0 || what < 0 || what > 3) {
            return refused(NONE_SUCH);
        }
        if (!isCode(code)) {
            return refused(WRONG_NUMBER);
        }
        packsAtCode.gather(code);
        if (packsAtCode.seek(k) <= k) {
            return answered(LACKING);
        }
        switch (what) {
            case 0:
                return answered(packsAtCode.last - packsAtCode.first + 1);
            case 1:
                return answered(packsAtCode.runnerBits());
            case 2:
                return answered(packsAtCode.timeOf(packsAtCode.first));
            default:
                return answered(packsAtCode.timeOf(packsAtCode.last));
        }
    }

    public int together(int r, int q) {
        int why = pairRefusal(r, q);
        if (why != 0) {
            return refused(why);
        }
        return answered(pairs.nearBits(meet.runnerAt(r), meet.runnerAt(q)));
    }

    public int alone(int r) {
        if (!meet.hasRunner(r)) {
            return refused(NONE_SUCH);
        }
        return answered(pairs.aloneBits(r));
    }

    public int chase(int r, int q, int what) {
        int why = what < 0 || what > 2 ? NONE_SUCH : pairRefusal(r, q);
        if (why != 0) {
            return refused(why);
        }
        pairs.findChase(meet.runnerAt(r), meet.runnerAt(q));
        if (pairs.chaseLength == 0) {
            return answered(LACKING);
        }
        switch (what) {
            case 0:
                return answered(pairs.chaseLength);
            case 1:
                return answered(pairs.chaseFirst);
            default:
                return answered(pairs.aheadAt(r, q, pairs.chaseFirst + pairs.chaseLength - 1));
        }
    }

    public int team(int r, int q) {
        int why = pairRefusal(r, q);
        if (why != 0) {
            return refused(why);
        }
        int time = pairs.teamTime(meet.runnerAt(r), meet.runnerAt(q));
        return answered(time == NONE ? LACKING : time);
    }

    public int mate(int r) {
        if (!meet.hasRunner(r)) {
            return refused(NONE_SUCH);
        }
        int who = pairs.bestMate(r);
        return answered(who == NONE ? LACKING : who);
    }

    public int passes(int r, int q) {
        int why = pairRefusal(r, q);
        if (why != 0) {
            return refused(why);
        }
        return answered(pairs.passings(meet.runnerAt(r), meet.runnerAt(q)));
    }

    public int crowd(int what) {
        if (!meet.isTold() || what < 0 || what > 1) {
            return refused(NONE_SUCH);
        }
        if (meet.runners == 0) {
            return refused(THERE_IS_NONE);
        }
        int time = meet.fullestTime();
        return answered(what == 0 ? meet.inForest(time) : time);
    }

    // ---- courses beside each other

    public int over(int from, int to, int what) {
        if (!meet.isTold() || what < 0 || what > 1) {
            return refused(NONE_SUCH);
        }
        if (!isCode(from) || !isCode(to)) {
            return refused(WRONG_NUMBER);
        }
        int who = legs.fastestOver(from, to);
        if (who == NONE) {
            return answered(LACKING);
        }
        return answered(what == 0 ? legs.timeOver(meet.runnerAt(who), from, to) : who);
    }

    public int common(int c, int d) {
        if (!meet.hasCourse(c) || !meet.hasCourse(d)) {
            return refused(NONE_SUCH);
        }
        return answered(meet.courseAt(c).pairsAlsoIn(meet.courseAt(d)));
    }

    // ---- acts

    public int add(int r, int code, int time) {
        if (!meet.hasRunner(r)) {
            return refused(NONE_SUCH);
        }
        Runner one = meet.runnerAt(r);
        if (!isCode(code) || time < one.start || time > one.finish) {
            return refused(WRONG_NUMBER);
        }
        if (one.punches >= MOST_PUNCHES) {
            return refused(NO_ROOM);
        }
        int k = one.placeFor(time);
        meet.insertPunch(r, k, code, time);
        acts.keep(Acts.ADDED, r, k, 0, 0);
        return answered(k);
    }

    public int drop(int r, int k) {
        if (!meet.hasPunch(r, k)) {
            return refused(NONE_SUCH);
        }
        Runner one = meet.runnerAt(r);
        int code = one.codeOf(k);
        acts.keep(Acts.DROPPED, r, k, code, one.timeOf(k));
        meet.removePunch(r, k);
        return answered(code);
    }

    public int start(int r, int t) {
        if (!meet.hasRunner(r)) {
            return refused(NONE_SUCH);
        }
        Runner one = meet.runnerAt(r);
        if (t < 0 || t >= one.finish) {
            return refused(WRONG_NUMBER);
        }
        if (one.punches > 0 && one.timeOf(0) < t) {
            return refused(NOT_SO);
        }
        int was = one.start;
        one.start = t;
        acts.keep(Acts.STARTED, r, was, 0, 0);
        return answered(was);
    }

    public int finish(int r, int t) {
        if (!meet.hasRunner(r)) {
            return refused(NONE_SUCH);
        }
        Runner one = meet.runnerAt(r);
        if (t <= one.start || t > LATEST_TIME) {
            return refused(WRONG_NUMBER);
        }
        if (one.punches > 0 && one.timeOf(one.punches - 1) > t) {
            return refused(NOT_SO);
        }
        int was = one.finish;
        one.finish = t;
        acts.keep(Acts.FINISHED, r, was, 0, 0);
        return answered(was);
    }

    public int move(int r, int c) {
        if (!meet.hasRunner(r) || !meet.hasCourse(c)) {
            return refused(NONE_SUCH);
        }
        int was = meet.runnerAt(r).course;
        meet.assign(r, c);
        acts.keep(Acts.MOVED, r, was, 0, 0);
        return answered(was);
    }

    public int become(int what, int v) {
        if (!meet.isTold() || what < 0 || what > 1) {
            return refused(NONE_SUCH);
        }
        if (v < 0 || v > WIDEST) {
            return refused(WRONG_NUMBER);
        }
        int was = what == GAP ? meet.gap : meet.slack;
        meet.widen(what, v);
        acts.keep(Acts.WIDENED, what, was, 0, 0);
        return answered(was);
    }

    public int recode(int c, int i, int code) {
        if (!meet.hasControl(c, i)) {
            return refused(NONE_SUCH);
        }
        if (!isCode(code)) {
            return refused(WRONG_NUMBER);
        }
        Course one = meet.courseAt(c);
        if (one.isCode(i - 1, code) || one.isCode(i + 1, code)) {
            return refused(NOT_SO);
        }
        int was = one.codeAt(i);
        meet.setCode(c, i, code);
        acts.keep(Acts.RECODED, c, i, was, 0);
        return answered(was);
    }

    public int cancel(int c, int i) {
        if (!meet.hasControl(c, i)) {
            return refused(NONE_SUCH);
        }
        Course one = meet.courseAt(c);
        if (one.controls == 1 || (i > 0 && one.isCode(i + 1, one.codeAt(i - 1)))) {
            return refused(NOT_SO);
        }
        acts.keep(Acts.CANCELLED, c, i, one.codeAt(i), 0);
        meet.removeControl(c, i);
        return answered(one.controls);
    }

    public int undo() {
        if (!meet.isTold()) {
            return refused(NONE_SUCH);
        }
        if (acts.kept == 0) {
            return refused(NOT_SO);
        }
        acts.takeBack();
        return answered(acts.kept);
    }

    // ---- names

    public int named(int n, boolean course) throws NoSuchElementException {
        int name = n < 0 || n > tape.length ? Tape.NO_WORD : tape.wordAlone(n);
        int number = course ? meet.courseNamed(name) : meet.runnerNamed(name);
        if (number == NONE) {
            throw new NoSuchElementException();
        }
        return number;
    }

    public int size() {
        return tape.length;
    }

    public int trouble() {
        return refusal;
    }

    private int answered(int answer) {
        refusal = 0;
        faultPlace = NONE;
        return answer;
    }

    private int refused(int why) {
        refusal = why;
        faultPlace = NONE;
        return NONE;
    }

    /** Why two RUNNERS can't be looked at together; 0 if they can. */
    private int pairRefusal(int r, int q) {
        if (!meet.hasRunner(r) || !meet.hasRunner(q)) {
            return NONE_SUCH;
        }
        return r == q || meet.runnerAt(r).course != meet.runnerAt(q).course ? NOT_SO : 0;
    }

    private static boolean isCode(int code) {
        return code >= 1 && code <= HIGHEST_CODE;
    }

    /** THE TAPE. A WORD is held as a number of five bits a letter, so that two are alike just if their numbers are. */
    private static final class Tape {
        static final int NO_WORD = 0;
        static final int LONGEST_WORD = 6;
        static final int BLANK = 32;

        private final int[] bytes = new int[TAPE_BYTES];
        int length = 0;

        void put(int four) {
            for (int shift = 24; shift >= 0; shift -= 8) {
                if (length >= 0 && length < bytes.length) {
                    bytes[length] = (four >>> shift) & 255;
                    length++;
                }
            }
        }

        int byteAt(int i) {
            return i >= 0 && i < length && i < bytes.length ? bytes[i] : 0;
        }

        static boolean isLetter(int sign) {
            return sign >= 'a' && sign <= 'z';
        }

        static int longer(int word, int letter) {
            return word << 5 | (letter & 31);
        }

        /** The only WORD in the first n bytes, NO_WORD if there is anything else but blanks. */
        int wordAlone(int n) {
            int from = 0;
            int to = n;
            while (from < to && byteAt(from) == BLANK) {
                from++;
            }
            while (to > from && byteAt(to - 1) == BLANK) {
                to--;
            }
            if (to - from > LONGEST_WORD) {
                return NO_WORD;
            }
            int word = NO_WORD;
            for (int i = from; i < to; i++) {
                if (!isLetter(byteAt(i))) {
                    return NO_WORD;
                }
                word = longer(word, byteAt(i));
            }
            return word;
        }
    }

    /** Reads THE TEXT token by token into a draft, up to the first FAULT. */
    private static final class Reader {
        private static final int COURSE_WORD = (('c' & 31) << 25) | (('o' & 31) << 20) | (('u' & 31) << 15)
            | (('r' & 31) << 10) | (('s' & 31) << 5) | ('e' & 31);
        private static final int RUNNER_WORD = (('r' & 31) << 25) | (('u' & 31) << 20) | (('n' & 31) << 15)
            | (('n' & 31) << 10) | (('e' & 31) << 5) | ('r' & 31);
        private static final int GAP_WORD = (('g' & 31) << 10) | (('a' & 31) << 5) | ('p' & 31);
        private static final int SLACK_WORD = (('s' & 31) << 20) | (('l' & 31) << 15) | (('a' & 31) << 10)
            | (('c' & 31) << 5) | ('k' & 31);

        private static final int END = 0;
        private static final int WORD = 1;
        private static final int WHOLE = 2;
        private static final int NO_TOKEN = 3;
        private static final int LONGEST_WHOLE = 4;

        private static final int FORM = 1;
        private static final int BOUNDS = 2;
        private static final int NAMES = 3;
        private static final int ROOM = 4;
        private static final int NO_COURSE = 5;

        private final Tape tape;
        private final Meet meet;
        private int end = 0;
        private int next = 0;
        private int kind = END;
        private int value = 0;
        private int widthsTold = 0;
        int found = 0;
        int place = 0;

        Reader(Tape tape, Meet meet) {
            this.tape = tape;
            this.meet = meet;
        }

        /** False, if there is a FAULT: found and place tell it then. */
        boolean read(int n) {
            begin(n);
            for (int line = 0; line <= n; line++) {
                advance();
                boolean sound = false;
                if (isWord(COURSE_WORD)) {
                    sound = readCourse();
                } else if (isWord(RUNNER_WORD)) {
                    sound = readRunner();
                } else if (isWord(GAP_WORD)) {
                    sound = readWidth(GAP);
                } else if (isWord(SLACK_WORD)) {
                    sound = readWidth(SLACK);
                } else {
                    failed(FORM);
                }
                if (!sound) {
                    return false;
                }
                if (kind == END) {
                    return meet.courses > 0 || failed(NO_COURSE);
                }
                if (kind != ';') {
                    return failed(FORM);
                }
            }
            return failed(FORM);
        }

        private void begin(int n) {
            meet.clear();
            end = n;
            next = 0;
            found = 0;
            widthsTold = 0;
        }

        private boolean failed(int fault) {
            found = fault;
            return false;
        }

        /** Goes to the next TOKEN; one of ; , : is a kind of its own, by its byte. */
        private void advance() {
            while (next < end && tape.byteAt(next) == Tape.BLANK) {
                next++;
            }
            place = next;
            int sign = tape.byteAt(next);
            if (next >= end) {
                kind = END;
            } else if (Tape.isLetter(sign)) {
                readWord();
            } else if (isDigit(sign)) {
                readWhole();
            } else {
                kind = sign == ';' || sign == ',' || sign == ':' ? sign : NO_TOKEN;
                next++;
            }
        }

        private static boolean isDigit(int sign) {
            return sign >= '0' && sign <= '9';
        }

        private void readWord() {
            value = Tape.NO_WORD;
            while (next < end && Tape.isLetter(tape.byteAt(next))) {
                value = Tape.longer(value, tape.byteAt(next));
                next++;
            }
            kind = next - place <= Tape.LONGEST_WORD ? WORD : NO_TOKEN;
        }

        private void readWhole() {
            value = 0;
            while (next < end && isDigit(tape.byteAt(next))) {
                value = value * 10 + (tape.byteAt(next) - '0');
                next++;
            }
            kind = next - place <= LONGEST_WHOLE ? WHOLE : NO_TOKEN;
        }

        private boolean readCourse() {
            if (meet.courses >= MOST_COURSES) {
                return failed(ROOM);
            }
            advance();
            if (!isNewName()) {
                return false;
            }
            Course course = meet.enterCourse(value);
            for (int i = 0; i <= MOST_CONTROLS; i++) {
                advance();
                if (!isWhole(1, HIGHEST_CODE)) {
                    return false;
                }
                if (course.isCode(i - 1, value)) {
                    return failed(BOUNDS);
                }
                if (i == MOST_CONTROLS) {
                    return failed(ROOM);
                }
                course.insert(i, value);
                advance();
                if (kind != ',') {
                    return true;
                }
            }
            return failed(ROOM);
        }

        private boolean readRunner() {
            if (meet.runners >= MOST_RUNNERS) {
                return failed(ROOM);
            }
            advance();
            if (!isNewName()) {
                return false;
            }
            Runner runner = meet.enterRunner(value);
            advance();
            if (!isName()) {
                return false;
            }
            runner.course = meet.courseNamed(value);
            if (runner.course == NONE) {
                return failed(NAMES);
            }
            advance();
            if (!isWhole(0, LATEST_TIME - 1)) {
                return false;
            }
            runner.start = value;
            advance();
            if (!isWhole(runner.start + 1, LATEST_TIME)) {
                return false;
            }
            runner.finish = value;
            advance();
            return kind != ':' || readPunches(runner);
        }

        private boolean readPunches(Runner runner) {
            int earliest = runner.start;
            for (int k = 0; k <= MOST_PUNCHES; k++) {
                advance();
                if (!isWhole(1, HIGHEST_CODE)) {
                    return false;
                }
                if (k == MOST_PUNCHES) {
                    return failed(ROOM);
                }
                int code = value;
                advance();
                if (!isWhole(earliest, runner.finish)) {
                    return false;
                }
                earliest = value;
                runner.insert(k, code, value);
                advance();
                if (kind != ',') {
                    return true;
                }
            }
            return failed(ROOM);
        }

        private boolean readWidth(int which) {
            int bit = 1 << which;
            if ((widthsTold & bit) != 0) {
                return failed(NAMES);
            }
            widthsTold |= bit;
            advance();
            if (!isWhole(0, WIDEST)) {
                return false;
            }
            meet.widen(which, value);
            advance();
            return true;
        }

        private boolean isWhole(int least, int most) {
            if (kind != WHOLE) {
                return failed(FORM);
            }
            return (value >= least && value <= most) || failed(BOUNDS);
        }

        private boolean isWord(int word) {
            return kind == WORD && value == word;
        }

        private boolean isName() {
            boolean kept = isWord(COURSE_WORD) || isWord(RUNNER_WORD) || isWord(GAP_WORD) || isWord(SLACK_WORD);
            return (kind == WORD && !kept) || failed(FORM);
        }

        private boolean isNewName() {
            if (!isName()) {
                return false;
            }
            boolean told = meet.courseNamed(value) != NONE || meet.runnerNamed(value) != NONE;
            return !told || failed(NAMES);
        }
    }

    private static final class Course {
        private final int[] codes = new int[MOST_CONTROLS];
        int name = Tape.NO_WORD;
        int controls = 0;

        void copyFrom(Course other) {
            name = other.name;
            controls = other.controls;
            System.arraycopy(other.codes, 0, codes, 0, MOST_CONTROLS);
        }

        boolean has(int i) {
            return i >= 0 && i < controls && i < codes.length;
        }

        int codeAt(int i) {
            return i >= 0 && i < controls && i < codes.length ? codes[i] : 0;
        }

        boolean isCode(int i, int code) {
            return has(i) && codeAt(i) == code;
        }

        void set(int i, int code) {
            if (has(i)) {
                codes[i] = code;
            }
        }

        void insert(int i, int code) {
            if (controls >= codes.length) {
                return;
            }
            controls++;
            for (int j = controls - 1; j > i; j--) {
                set(j, codeAt(j - 1));
            }
            set(i, code);
        }

        void remove(int i) {
            if (!has(i)) {
                return;
            }
            for (int j = i; j < controls - 1; j++) {
                set(j, codeAt(j + 1));
            }
            controls--;
        }

        boolean hasPair(int from, int to, int below) {
            for (int i = 0; i + 1 < below; i++) {
                if (isCode(i, from) && isCode(i + 1, to)) {
                    return true;
                }
            }
            return false;
        }

        int pairsAlsoIn(Course other) {
            int count = 0;
            for (int i = 0; i + 1 < controls; i++) {
                int from = codeAt(i);
                int to = codeAt(i + 1);
                // a pair that stood here before has been counted then
                if (!hasPair(from, to, i + 1) && other.hasPair(from, to, other.controls)) {
                    count++;
                }
            }
            return count;
        }
    }

    /** A RUNNER with his MATCH on his own COURSE. */
    private static final class Runner {
        private final int[] codes = new int[MOST_PUNCHES];
        private final int[] times = new int[MOST_PUNCHES];
        private final int[] controlOfPunch = new int[MOST_PUNCHES];
        private final int[] timeOfControl = new int[MOST_CONTROLS];
        int name = Tape.NO_WORD;
        int course = 0;
        int start = 0;
        int finish = 0;
        int punches = 0;
        int controls = 0;
        int taken = 0;

        void copyFrom(Runner other) {
            name = other.name;
            course = other.course;
            start = other.start;
            finish = other.finish;
            punches = other.punches;
            System.arraycopy(other.codes, 0, codes, 0, MOST_PUNCHES);
            System.arraycopy(other.times, 0, times, 0, MOST_PUNCHES);
        }

        boolean has(int k) {
            return k >= 0 && k < punches && k < codes.length;
        }

        int codeOf(int k) {
            return k >= 0 && k < punches && k < codes.length ? codes[k] : 0;
        }

        int timeOf(int k) {
            return k >= 0 && k < punches && k < times.length ? times[k] : NONE;
        }

        /** The CONTROL that a PUNCH takes, NONE if it is EXTRA. */
        int controlOf(int k) {
            return k >= 0 && k < punches && k < controlOfPunch.length ? controlOfPunch[k] : NONE;
        }

        private void set(int k, int code, int time) {
            if (k >= 0 && k < codes.length && k < times.length) {
                codes[k] = code;
                times[k] = time;
            }
        }

        void insert(int k, int code, int time) {
            if (punches >= codes.length) {
                return;
            }
            punches++;
            for (int j = punches - 1; j > k; j--) {
                set(j, codeOf(j - 1), timeOf(j - 1));
            }
            set(k, code, time);
        }

        void remove(int k) {
            if (!has(k)) {
                return;
            }
            for (int j = k; j < punches - 1; j++) {
                set(j, codeOf(j + 1), timeOf(j + 1));
            }
            punches--;
        }

        /** The place behind all PUNCHES of a TIME or before. */
        int placeFor(int time) {
            int k = 0;
            while (k < punches && timeOf(k) <= time) {
                k++;
            }
            return k;
        }

        /** The first PUNCH of a CODE from a place on, or NONE. */
        int firstOf(int code, int from) {
            for (int k = from; k < punches; k++) {
                if (codeOf(k) == code) {
                    return k;
                }
            }
            return NONE;
        }

        void unmatch(int controlsOfCourse) {
            controls = controlsOfCourse;
            taken = 0;
            Arrays.fill(timeOfControl, NONE);
            Arrays.fill(controlOfPunch, NONE);
        }

        void take(int i, int k) {
            if (i >= 0 && i < timeOfControl.length && k >= 0 && k < controlOfPunch.length) {
                timeOfControl[i] = timeOf(k);
                controlOfPunch[k] = i;
                taken++;
            }
        }

        boolean isValid() {
            return taken == controls;
        }

        int total() {
            return finish - start;
        }

        int missedBits() {
            int bits = 0;
            for (int i = 0; i < controls; i++) {
                if (timeAt(i) == NONE) {
                    bits |= 1 << i;
                }
            }
            return bits;
        }

        /** The TIME at a POINT, NONE if it isn't TAKEN. */
        int timeAt(int i) {
            if (i == controls) {
                return finish;
            }
            return i >= 0 && i < controls && i < timeOfControl.length ? timeOfControl[i] : NONE;
        }

        int splitAt(int i) {
            int time = timeAt(i);
            return time == NONE ? NONE : time - start;
        }

        /** NONE, if he hasn't the LEG. */
        int legTime(int i) {
            int to = timeAt(i);
            int from = i == 0 ? start : timeAt(i - 1);
            return to == NONE || from == NONE ? NONE : to - from;
        }

        int totalWithout(int leg) {
            return total() - legTime(leg);
        }
    }

    /** Finds MATCHES: how many CONTROLS can be TAKEN from each one on by PUNCHES from each one on. */
    private static final class Matcher {
        private static final int WIDTH = MOST_PUNCHES + 1;

        private final int[] most = new int[(MOST_CONTROLS + 1) * WIDTH];

        private int mostFrom(int i, int k) {
            int at = i * WIDTH + k;
            return at >= 0 && at < most.length ? most[at] : 0;
        }

        private void set(int i, int k, int count) {
            int at = i * WIDTH + k;
            if (at >= 0 && at < most.length) {
                most[at] = count;
            }
        }

        /** How many CONTROLS of a COURSE a RUNNER's MATCH takes. */
        int mostTaken(Course course, Runner runner) {
            for (int i = course.controls; i >= 0; i--) {
                for (int k = runner.punches; k >= 0; k--) {
                    if (i == course.controls || k == runner.punches) {
                        set(i, k, 0);
                    } else if (course.codeAt(i) == runner.codeOf(k)) {
                        set(i, k, 1 + mostFrom(i + 1, k + 1));
                    } else {
                        set(i, k, Math.max(mostFrom(i + 1, k), mostFrom(i, k + 1)));
                    }
                }
            }
            return mostFrom(0, 0);
        }

        void match(Course course, Runner runner) {
            mostTaken(course, runner);
            runner.unmatch(course.controls);
            int from = 0;
            for (int i = 0; i < course.controls; i++) {
                // a later PUNCH of the same CODE never leaves more for those behind than the first one
                int k = runner.firstOf(course.codeAt(i), from);
                if (k != NONE && 1 + mostFrom(i + 1, k + 1) == mostFrom(i, from)) {
                    runner.take(i, k);
                    from = k + 1;
                }
            }
        }
    }

    /** All that THE TEXT tells, with each RUNNER's MATCH kept as it is due. */
    private static final class Meet {
        private final Course[] courseRow = new Course[MOST_COURSES];
        private final Runner[] runnerRow = new Runner[MOST_RUNNERS];
        private final Matcher matcher = new Matcher();
        int courses = 0;
        int runners = 0;
        int gap = GAP_UNTOLD;
        int slack = SLACK_UNTOLD;

        Meet() {
            for (int c = 0; c < courseRow.length; c++) {
                courseRow[c] = new Course();
            }
            for (int r = 0; r < runnerRow.length; r++) {
                runnerRow[r] = new Runner();
            }
        }

        void clear() {
            courses = 0;
            runners = 0;
            gap = GAP_UNTOLD;
            slack = SLACK_UNTOLD;
        }

        void copyFrom(Meet other) {
            courses = other.courses;
            runners = other.runners;
            gap = other.gap;
            slack = other.slack;
            for (int c = 0; c < courses; c++) {
                courseAt(c).copyFrom(other.courseAt(c));
            }
            for (int r = 0; r < runners; r++) {
                runnerAt(r).copyFrom(other.runnerAt(r));
                matchRunner(r);
            }
        }

        Course enterCourse(int name) {
            Course course = courseAt(courses);
            course.name = name;
            course.controls = 0;
            courses++;
            return course;
        }

        Runner enterRunner(int name) {
            Runner runner = runnerAt(runners);
            runner.name = name;
            runner.punches = 0;
            runners++;
            return runner;
        }

        boolean isTold() {
            return courses > 0;
        }

        boolean hasCourse(int c) {
            return c >= 0 && c < courses;
        }

        boolean hasRunner(int r) {
            return r >= 0 && r < runners;
        }

        boolean hasControl(int c, int i) {
            return hasCourse(c) && courseAt(c).has(i);
        }

        /** POINTS and LEGS of a COURSE have the same numbers. */
        boolean hasPoint(int c, int i) {
            return hasCourse(c) && i >= 0 && i <= courseAt(c).controls;
        }

        boolean hasRunnerPoint(int r, int i) {
            return hasRunner(r) && i >= 0 && i <= runnerAt(r).controls;
        }

        boolean hasPunch(int r, int k) {
            return hasRunner(r) && runnerAt(r).has(k);
        }

        /** Asked with numbers that there are; any other one is led to the first, so that no index is ever wrong. */
        Course courseAt(int c) {
            return courseRow[c >= 0 && c < courseRow.length ? c : 0];
        }

        Runner runnerAt(int r) {
            return runnerRow[r >= 0 && r < runnerRow.length ? r : 0];
        }

        int courseNamed(int name) {
            for (int c = 0; c < courses; c++) {
                if (courseAt(c).name == name) {
                    return c;
                }
            }
            return NONE;
        }

        int runnerNamed(int name) {
            for (int r = 0; r < runners; r++) {
                if (runnerAt(r).name == name) {
                    return r;
                }
            }
            return NONE;
        }

        boolean isOf(int r, int c) {
            return hasRunner(r) && runnerAt(r).course == c;
        }

        boolean isValidOf(int r, int c) {
            return isOf(r, c) && runnerAt(r).isValid();
        }

        int allPunches() {
            int count = 0;
            for (int r = 0; r < runners; r++) {
                count += runnerAt(r).punches;
            }
            return count;
        }

        int allValid() {
            int count = 0;
            for (int c = 0; c < courses; c++) {
                count += validOf(c);
            }
            return count;
        }

        int runnersOf(int c) {
            int count = 0;
            for (int r = 0; r < runners; r++) {
                count += isOf(r, c) ? 1 : 0;
            }
            return count;
        }

        int validOf(int c) {
            int count = 0;
            for (int r = 0; r < runners; r++) {
                count += isValidOf(r, c) ? 1 : 0;
            }
            return count;
        }

        int leastTotal(int c) {
            int least = LACKING;
            for (int r = 0; r < runners; r++) {
                if (isValidOf(r, c) && (least == LACKING || runnerAt(r).total() < least)) {
                    least = runnerAt(r).total();
                }
            }
            return least;
        }

        int missesOn(Runner runner, int c) {
            return courseAt(c).controls - matcher.mostTaken(courseAt(c), runner);
        }

        int fittest(Runner runner) {
            int fit = 0;
            int fewest = missesOn(runner, 0);
            for (int c = 1; c < courses; c++) {
                int misses = missesOn(runner, c);
                boolean longer = courseAt(c).controls > courseAt(fit).controls;
                if (misses < fewest || (misses == fewest && longer)) {
                    fit = c;
                    fewest = misses;
                }
            }
            return fit;
        }

        int inForest(int time) {
            int count = 0;
            for (int r = 0; r < runners; r++) {
                count += runnerAt(r).start <= time && time < runnerAt(r).finish ? 1 : 0;
            }
            return count;
        }

        /** The first TIME with the most in the forest: their number only rises at a START. */
        int fullestTime() {
            int fullest = runnerAt(0).start;
            for (int r = 1; r < runners; r++) {
                int time = runnerAt(r).start;
                int more = inForest(time) - inForest(fullest);
                if (more > 0 || (more == 0 && time < fullest)) {
                    fullest = time;
                }
            }
            return fullest;
        }

        void insertPunch(int r, int k, int code, int time) {
            runnerAt(r).insert(k, code, time);
            matchRunner(r);
        }

        void removePunch(int r, int k) {
            runnerAt(r).remove(k);
            matchRunner(r);
        }

        void assign(int r, int c) {
            runnerAt(r).course = c;
            matchRunner(r);
        }

        void widen(int which, int v) {
            if (which == GAP) {
                gap = v;
            } else {
                slack = v;
            }
        }

        void setCode(int c, int i, int code) {
            courseAt(c).set(i, code);
            matchCourse(c);
        }

        void insertControl(int c, int i, int code) {
            courseAt(c).insert(i, code);
            matchCourse(c);
        }

        void removeControl(int c, int i) {
            courseAt(c).remove(i);
            matchCourse(c);
        }

        private void matchRunner(int r) {
            matcher.match(courseAt(runnerAt(r).course), runnerAt(r));
        }

        private void matchCourse(int c) {
            for (int r = 0; r < runners; r++) {
                if (isOf(r, c)) {
                    matcher.match(courseAt(c), runnerAt(r));
                }
            }
        }
    }

    /** SPLITS and LEGS of all RUNNERS of a COURSE against each other. */
    private static final class Legs {
        private final Meet meet;

        Legs(Meet meet) {
            this.meet = meet;
        }

        /** The PLACE among VALID RUNNERS that a TIME would have on a RUNNER's COURSE. */
        int placeByTotal(Runner one, int time) {
            int place = 1;
            for (int r = 0; r < meet.runners; r++) {
                place += meet.isValidOf(r, one.course) && meet.runnerAt(r).total() < time ? 1 : 0;
            }
            return place;
        }

        int placeAtPoint(Runner one, int i) {
            int place = 1;
            for (int r = 0; r < meet.runners; r++) {
                int split = meet.isOf(r, one.course) ? meet.runnerAt(r).splitAt(i) : NONE;
                place += split != NONE && split < one.splitAt(i) ? 1 : 0;
            }
            return place;
        }

        int placeOnLeg(Runner one, int i) {
            int place = 1;
            for (int r = 0; r < meet.runners; r++) {
                int time = meet.isOf(r, one.course) ? meet.runnerAt(r).legTime(i) : NONE;
                place += time != NONE && time < one.legTime(i) ? 1 : 0;
            }
            return place;
        }

        /** SPLIT of who LEADS, or NONE. */
        int leastSplit(int c, int i) {
            int least = NONE;
            for (int r = 0; r < meet.runners; r++) {
                int split = meet.isOf(r, c) ? meet.runnerAt(r).splitAt(i) : NONE;
                if (split != NONE && (least == NONE || split < least)) {
                    least = split;
                }
            }
            return least;
        }

        /** Who LEADS, or NONE. */
        int leader(int c, int i) {
            int least = leastSplit(c, i);
            for (int r = 0; r < meet.runners; r++) {
                if (least != NONE && meet.isOf(r, c) && meet.runnerAt(r).splitAt(i) == least) {
                    return r;
                }
            }
            return NONE;
        }

        int leadChanges(int c) {
            int count = 0;
            for (int i = 0; i < meet.courseAt(c).controls; i++) {
                int first = leader(c, i);
                int second = leader(c, i + 1);
                count += first != NONE && second != NONE && first != second ? 1 : 0;
            }
            return count;
        }

        int rankedAs(int c, int i) {
            for (int r = 0; r < meet.runners; r++) {
                if (meet.isValidOf(r, c) && aheadOf(r, c) == i) {
                    return r;
                }
            }
            return LACKING;
        }

        private int aheadOf(int r, int c) {
            int total = meet.runnerAt(r).total();
            int count = 0;
            for (int q = 0; q < meet.runners; q++) {
                int other = meet.runnerAt(q).total();
                count += meet.isValidOf(q, c) && (other < total || (other == total && q < r)) ? 1 : 0;
            }
            return count;
        }

        /** BEST, or NONE. */
        int bestTime(int c, int i) {
            int least = NONE;
            for (int r = 0; r < meet.runners; r++) {
                int time = meet.isOf(r, c) ? meet.runnerAt(r).legTime(i) : NONE;
                if (time != NONE && (least == NONE || time < least)) {
                    least = time;
                }
            }
            return least;
        }

        /** Whose LEG TIME is BEST, or NONE. */
        int bestRunner(int c, int i) {
            int least = bestTime(c, i);
            for (int r = 0; r < meet.runners; r++) {
                if (least != NONE && meet.isOf(r, c) && meet.runnerAt(r).legTime(i) == least) {
                    return r;
                }
            }
            return NONE;
        }

        int ideal(int c) {
            int sum = 0;
            for (int i = 0; i <= meet.courseAt(c).controls; i++) {
                int time = bestTime(c, i);
                if (time == NONE) {
                    return LACKING;
                }
                sum += time;
            }
            return sum;
        }

        /** LOST on a LEG; NONE, if he hasn't it. */
        int lostOn(Runner one, int i) {
            int time = one.legTime(i);
            return time == NONE ? NONE : time - bestTime(one.course, i);
        }

        int lostInAll(Runner one) {
            int sum = 0;
            for (int i = 0; i <= one.controls; i++) {
                sum += Math.max(lostOn(one, i), 0);
            }
            return sum;
        }

        int worstLeg(Runner one) {
            int leg = LACKING;
            int most = NONE;
            for (int i = 0; i <= one.controls; i++) {
                int lost = lostOn(one, i);
                if (lost > most) {
                    leg = i;
                    most = lost;
                }
            }
            return leg;
        }

        /** What all who HAVE a LEG LOST on it; NONE, if nobody HAS it. */
        int lostByAll(int c, int i) {
            int best = bestTime(c, i);
            int sum = best == NONE ? NONE : 0;
            for (int r = 0; r < meet.runners; r++) {
                int time = meet.isOf(r, c) ? meet.runnerAt(r).legTime(i) : NONE;
                sum += time == NONE ? 0 : time - best;
            }
            return sum;
        }

        /** NONE, if nobody HAS any. */
        int hardestLeg(int c) {
            int leg = NONE;
            int most = NONE;
            for (int i = 0; i <= meet.courseAt(c).controls; i++) {
                int lost = lostByAll(c, i);
                if (lost > most) {
                    leg = i;
                    most = lost;
                }
            }
            return leg;
        }

        /** The first VALID RUNNER of a COURSE RELAID without a LEG, or NONE. */
        int firstWithout(int c, int leg) {
            int who = NONE;
            int least = NONE;
            for (int r = 0; r < meet.runners; r++) {
                int total = meet.runnerAt(r).totalWithout(leg);
                if (meet.isValidOf(r, c) && (who == NONE || total < least)) {
                    who = r;
                    least = total;
                }
            }
            return who;
        }

        /** The RUNNER who came in the least TIME from a CODE to the next CONTROL with the other one, or NONE. */
        int fastestOver(int from, int to) {
            int who = NONE;
            int least = NONE;
            for (int r = 0; r < meet.runners; r++) {
                int time = timeOver(meet.runnerAt(r), from, to);
                if (time != NONE && (who == NONE || time < least)) {
                    who = r;
                    least = time;
                }
            }
            return who;
        }

        int timeOver(Runner one, int from, int to) {
            Course course = meet.courseAt(one.course);
            int least = NONE;
            for (int i = 1; i < course.controls; i++) {
                int time = course.isCode(i - 1, from) && course.isCode(i, to) ? one.legTime(i) : NONE;
                if (time != NONE && (least == NONE || time < least)) {
                    least = time;
                }
            }
            return least;
        }
    }

    /** PACE of one RUNNER at a time, and what follows from it. */
    private static final class Paces {
        private final Meet meet;
        private final Legs legs;
        private final int[] times = new int[MOST_LEGS];
        private final int[] bests = new int[MOST_LEGS];
        private final int[] sortedTimes = new int[MOST_LEGS];
        private final int[] sortedBests = new int[MOST_LEGS];
        private int sorted = 0;
        int above = 0;
        int below = 0;

        Paces(Meet meet, Legs legs) {
            this.meet = meet;
            this.legs = legs;
        }

        /** False, if the RUNNER has no PACE. */
        boolean reckon(Runner one) {
            sorted = 0;
            above = 0;
            below = 0;
            for (int i = 0; i < MOST_LEGS; i++) {
                int time = i <= one.controls ? one.legTime(i) : NONE;
                int best = time == NONE ? NONE : legs.bestTime(one.course, i);
                times[i] = time;
                bests[i] = best;
                if (best > 0) {
                    sortIn(time, best);
                }
            }
            if (sorted <= 0 || sorted > MOST_LEGS) {
                return false;
            }
            int middle = (sorted - 1) / 2;
            reduce(sortedTimes[middle], sortedBests[middle]);
            return true;
        }

        private void sortIn(int time, int best) {
            if (sorted >= MOST_LEGS) {
                return;
            }
            int at = sorted;
            while (at > 0 && sortedTimes[at - 1] * best > time * sortedBests[at - 1]) {
                sortedTimes[at] = sortedTimes[at - 1];
                sortedBests[at] = sortedBests[at - 1];
                at--;
            }
            sortedTimes[at] = time;
            sortedBests[at] = best;
            sorted++;
        }

        private void reduce(int time, int best) {
            int divisor = time;
            int rest = best;
            // numbers below 10,000 need some twenty steps
            for (int step = 0; step < 64 && rest != 0; step++) {
                int next = divisor % rest;
                divisor = rest;
                rest = next;
            }
            if (divisor > 0) {
                above = time / divisor;
                below = best / divisor;
            }
        }

        /** Whether the RUNNER reckoned last HAS a LEG whose BEST is above 0. */
        boolean isPaced(int i) {
            return i >= 0 && i < MOST_LEGS && bests[i] > 0;
        }

        int mistakeOn(int i) {
            if (!isPaced(i) || below <= 0) {
                return 0;
            }
            // a half goes down: what is added is less than half of the divisor
            int due = (2 * above * bests[i] + below - 1) / (2 * below);
            int late = times[i] - due;
            return late > 0 && late >= meet.slack ? late : 0;
        }

        int mistakeBits(Runner one) {
            reckon(one);
            int bits = 0;
            for (int i = 0; i < MOST_LEGS; i++) {
                bits |= mistakeOn(i) > 0 ? 1 << i : 0;
            }
            return bits;
        }

        int cleanTime(Runner one) {
            reckon(one);
            int time = one.total();
            for (int i = 0; i < MOST_LEGS; i++) {
                time -= mistakeOn(i);
            }
            return time;
        }

        /** The PLACE of a VALID RUNNER's CLEAN among those of the others. */
        int placeByClean(Runner one, int time) {
            int place = 1;
            for (int r = 0; r < meet.runners; r++) {
                place += meet.isValidOf(r, one.course) && cleanTime(meet.runnerAt(r)) < time ? 1 : 0;
            }
            return place;
        }
    }

    /** PACKS at one CODE at a time. */
    private static final class Packs {
        private static final int MOST = MOST_RUNNERS * MOST_CONTROLS;

        private final Meet meet;
        private final int[] times = new int[MOST];
        private final int[] who = new int[MOST];
        private int count = 0;
        int first = 0;
        int last = 0;

        Packs(Meet meet) {
            this.meet = meet;
        }

        /** Sorts by TIME alone: those of like TIMES come by RUNNERS and places as it is. */
        void gather(int code) {
            count = 0;
            for (int r = 0; r < meet.runners; r++) {
                Runner one = meet.runnerAt(r);
                for (int k = 0; k < one.punches; k++) {
                    if (one.codeOf(k) == code && one.controlOf(k) != NONE) {
                        sortIn(one.timeOf(k), r);
                    }
                }
            }
        }

        private void sortIn(int time, int r) {
            if (count >= MOST) {
                return;
            }
            int at = count;
            while (at > 0 && times[at - 1] > time) {
                times[at] = times[at - 1];
                who[at] = who[at - 1];
                at--;
            }
            times[at] = time;
            who[at] = r;
            count++;
        }

        int timeOf(int at) {
            return at >= 0 && at < count && at < MOST ? times[at] : NONE;
        }

        /** How many PACKS there are; first and last are then the ends of the k-th one. */
        int seek(int k) {
            int found = 0;
            int from = 0;
            for (int at = 1; at <= count; at++) {
                boolean goesOn = at < count && timeOf(at) - timeOf(at - 1) <= meet.gap;
                if (!goesOn) {
                    if (at - from >= 2) {
                        if (found == k) {
                            first = from;
                            last = at - 1;
                        }
                        found++;
                    }
                    from = at;
                }
            }
            return found;
        }

        int runnerBits() {
            int bits = 0;
            for (int at = first; at <= last && at < MOST; at++) {
                bits |= at >= 0 ? 1 << who[at] : 0;
            }
            return bits;
        }
    }

    /** Two RUNNERS of one COURSE beside each other. */
    private static final class Pairs {
        private final Meet meet;
        int chaseFirst = 0;
        int chaseLength = 0;

        Pairs(Meet meet) {
            this.meet = meet;
        }

        private boolean bothAt(Runner one, Runner other, int i) {
            return one.timeAt(i) != NONE && other.timeAt(i) != NONE;
        }

        private boolean nearAt(Runner one, Runner other, int i) {
            return bothAt(one, other, i) && Math.abs(one.timeAt(i) - other.timeAt(i)) <= meet.gap;
        }

        int nearBits(Runner one, Runner other) {
            int bits = 0;
            for (int i = 0; i <= one.controls; i++) {
                bits |= nearAt(one, other, i) ? 1 << i : 0;
            }
            return bits;
        }

        int aloneBits(int r) {
            Runner one = meet.runnerAt(r);
            int bits = nearBits(one, one);
            for (int q = 0; q < meet.runners; q++) {
                if (q != r && meet.isOf(q, one.course)) {
                    bits &= ~nearBits(one, meet.runnerAt(q));
                }
            }
            return bits;
        }

        void findChase(Runner one, Runner other) {
            chaseFirst = 0;
            chaseLength = 0;
            int length = 0;
            for (int i = 0; i <= one.controls; i++) {
                length = nearAt(one, other, i) ? length + 1 : 0;
                if (length > chaseLength) {
                    chaseLength = length;
                    chaseFirst = i - length + 1;
                }
            }
        }

        /** Who of two is earlier at a POINT, of like TIMES the least. */
        int aheadAt(int r, int q, int i) {
            int by = meet.runnerAt(r).timeAt(i) - meet.runnerAt(q).timeAt(i);
            if (by == 0) {
                return Math.min(r, q);
            }
            return by < 0 ? r : q;
        }

        /** TEAM, or NONE. */
        int teamTime(Runner one, Runner other) {
            int sum = 0;
            for (int i = 0; i <= one.controls; i++) {
                int time = lesser(one.legTime(i), other.legTime(i));
                if (time == NONE) {
                    return NONE;
                }
                sum += time;
            }
            return sum;
        }

        private static int lesser(int one, int other) {
            if (one == NONE || other == NONE) {
                return Math.max(one, other);
            }
            return Math.min(one, other);
        }

        /** The RUNNER of the best TEAM with another one, or NONE. */
        int bestMate(int r) {
            Runner one = meet.runnerAt(r);
            int who = NONE;
            int least = NONE;
            for (int q = 0; q < meet.runners; q++) {
                int time = q != r && meet.isOf(q, one.course) ? teamTime(one, meet.runnerAt(q)) : NONE;
                if (time != NONE && (who == NONE || time < least)) {
                    who = q;
                    least = time;
                }
            }
            return who;
        }

        int passings(Runner one, Runner other) {
            int count = 0;
            for (int i = 0; i < one.controls; i++) {
                boolean both = bothAt(one, other, i) && bothAt(one, other, i + 1);
                boolean behind = one.timeAt(i) > other.timeAt(i);
                boolean ahead = one.timeAt(i + 1) < other.timeAt(i + 1);
                count += both && behind && ahead ? 1 : 0;
            }
            return count;
        }
    }

    /** The latest ACTS, each with what brings back what was. */
    private static final class Acts {
        static final int ADDED = 0;
        static final int DROPPED = 1;
        static final int STARTED = 2;
        static final int FINISHED = 3;
        static final int MOVED = 4;
        static final int WIDENED = 5;
        static final int RECODED = 6;
        static final int CANCELLED = 7;
        private static final int WIDTH = 5;

        private final Meet meet;
        private final int[] rows = new int[MOST_ACTS * WIDTH];
        int kept = 0;

        Acts(Meet meet) {
            this.meet = meet;
        }

        void forget() {
            kept = 0;
        }

        void keep(int kind, int whose, int a, int b, int c) {
            if (kept >= MOST_ACTS) {
                System.arraycopy(rows, WIDTH, rows, 0, (MOST_ACTS - 1) * WIDTH);
                kept = MOST_ACTS - 1;
            }
            set(0, kind);
            set(1, whose);
            set(2, a);
            set(3, b);
            set(4, c);
            kept++;
        }

        private void set(int column, int value) {
            int at = kept * WIDTH + column;
            if (at >= 0 && at < rows.length) {
                rows[at] = value;
            }
        }

        private int value(int column) {
            int at = kept * WIDTH + column;
            return at >= 0 && at < rows.length ? rows[at] : 0;
        }

        void takeBack() {
            if (kept <= 0) {
                return;
            }
            kept--;
            int whose = value(1);
            int a = value(2);
            switch (value(0)) {
                case ADDED:
                    meet.removePunch(whose, a);
                    break;
                case DROPPED:
                    meet.insertPunch(whose, a, value(3), value(4));
                    break;
                case STARTED:
                    meet.runnerAt(whose).start = a;
                    break;
                case FINISHED:
                    meet.runnerAt(whose).finish = a;
                    break;
                case MOVED:
                    meet.assign(whose, a);
                    break;
                case WIDENED:
                    meet.widen(whose, a);
                    break;
                case RECODED:
                    meet.setCode(whose, a, value(3));
                    break;
                default:
                    meet.insertControl(whose, a, value(3));
                    break;
            }
        }
    }
}
