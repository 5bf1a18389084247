import java.util.Arrays;

/** A council of hedgehogs: see ../shared/DOC.md, whose words the names here follow. */
public final class HedgeCouncil {
    public static final int NONE = -1;

    private static final int BAD_NUMBER = -1;
    private static final int NO_SUCH = -2;
    private static final int CANNOT_BE = -3;
    private static final int NO_ROOM = -5;
    private static final int BAD_TEXT = -6;
    private static final int REFUSAL_KINDS = 5;

    private static final int HEDGEHOG_ROOM = 8;
    private static final int SEEN_ROOM = 6;
    private static final int LAW_ROOM = 6;
    private static final int IMAGE_ROOM = 2;
    private static final int UNDO_ROOM = 16;
    private static final int TAPE_ROOM = 400;
    private static final int BYTES_FED = 20;

    private static final int MOST_WANT = 9;
    private static final int MOST_STILL = 99;
    private static final int LAST_MINUTE = 999;
    private static final int FARTHEST = 60;
    private static final int TERM_KINDS = 4;
    private static final int TERM_MINUTE = 0;
    private static final int TERM_STARTS = 1;
    private static final int TERM_HUSH = 2;
    private static final int TERM_MOOD = 3;
    private static final int[] MOST_OF_TERM = {LAST_MINUTE, 10, 9, 9};

    private static final int MOST_SEED = 1000000;
    private static final int MOST_FEW = 20;
    private static final int MOST_STARTING = 99;
    private static final long WHOLE_CHANCE = 1000000000000L;

    private static final int TOUCH = 0;
    private static final int COAX = 1;
    private static final int TEMPT = 2;
    private static final int PASS = 3;

    private static final int NEEDS = 0;
    private static final int WANTS = 1;
    private static final int SHUTS = 2;

    // A TOKEN is told by one number: a single byte by itself, a word by its place
    // in WORDS behind FIRST_WORD, a NUMBER by itself behind FIRST_NUMBER.
    private static final String WORDS =
        "needs wants shuts touch coax tempt pass if to times or and not who want shy near all still minute hush mood done latest is ";
    private static final int FIRST_WORD = 256;
    private static final int WORD_NEEDS = FIRST_WORD;
    private static final int WORD_SHUTS = FIRST_WORD + 2;
    private static final int WORD_TOUCH = FIRST_WORD + 3;
    private static final int WORD_PASS = FIRST_WORD + 6;
    private static final int WORD_IF = FIRST_WORD + 7;
    private static final int WORD_TO = FIRST_WORD + 8;
    private static final int WORD_TIMES = FIRST_WORD + 9;
    private static final int WORD_OR = FIRST_WORD + 10;
    private static final int WORD_AND = FIRST_WORD + 11;
    private static final int WORD_NOT = FIRST_WORD + 12;
    private static final int WORD_WHO = FIRST_WORD + 13;
    private static final int WORD_MOOD = FIRST_WORD + 21;
    private static final int FIRST_NUMBER = 1024;
    private static final int NO_TOKEN = -2;

    // Where it stands among the values what a word stands for: in the order of WORDS.
    private static final int WHO = 0;
    private static final int WANT = 1;
    private static final int SHY = 2;
    private static final int NEAR = 3;
    private static final int ALL = 4;
    private static final int STILL = 5;
    private static final int MINUTE = 6;
    private static final int HUSH = 7;
    private static final int MOOD = 8;
    private static final int DONE = 9;
    private static final int LATEST = 10;
    private static final int IS = 11;
    // What ORDERS ask of a HEDGEHOG: one value for each that may be.
    private static final int WANT_OF = 12;
    private static final int STILL_OF = WANT_OF + HEDGEHOG_ROOM;
    private static final int IS_OF = STILL_OF + HEDGEHOG_ROOM;
    private static final int VALUE_ROOM = IS_OF + HEDGEHOG_ROOM;

    private static final int MOST_CLAUSES = 12;
    private static final int MOST_PARTS = 50;
    private static final int MOST_DEPTH = 8;
    private static final int MOST_NUMBER = 1000;
    private static final int MOST_TIMES = 20;
    // A TOKEN makes one step at most, and each SUM and TEST has one step more, its end.
    private static final int CODE_ROOM = TAPE_ROOM + 3 * MOST_CLAUSES;
    // Two values wait at each depth of brackets at most, and one left of a comparison.
    private static final int STACK_ROOM = 32;

    private static final int STEP_BITS = 4;
    private static final int STEP_MASK = 15;
    private static final int STEP_END = 0;
    private static final int STEP_NUMBER = 1;
    private static final int STEP_WORD = 2;
    private static final int STEP_NOT = 3;
    private static final int STEP_AND = 4;
    private static final int STEP_OR = 5;
    private static final int STEP_LESS = 6;
    private static final int STEP_MORE = 7;
    private static final int STEP_SAME = 8;
    private static final int STEP_ADD = 9;
    private static final int STEP_TAKE = 10;
    private static final int STEP_TIMES = 11;
    private static final int STEP_DIVIDE = 12;
    private static final int STEP_REST = 13;

    private static final long MOST_VALUE = 1000000000L;
    // Far beyond MOST_VALUE, so that no SUM that stands can be mistaken for it.
    private static final long BROKEN = -1000000000000000L;

    private final Chamber chamber = new Chamber();
    private final Chamber[] images = new Chamber[IMAGE_ROOM];
    private final Past past = new Past();
    private final Course course = new Course();
    private final Paths paths = new Paths();
    private final Moment drawnMoment = new Moment();
    private int drawnMany = 0;
    private final int[] tape = new int[TAPE_ROOM];
    private int tapeSize = 0;
    private final Reader reader = new Reader();
    private final Errand errand = new Errand();
    private final Moment trial = new Moment();
    private final long[] chances = new long[MOST_FEW];
    private final int[] refusals = new int[REFUSAL_KINDS];
    private int latestRefusal = 0;
    private int latestBurrs = 0;
    private int latestFault = NONE;
    private int latestStop = NONE;

    public HedgeCouncil() {
    }

    public int hedgehog(int want, int shy) {
        if (!isUpTo(want, MOST_WANT) || !isUpTo(shy, MOST_WANT)) {
            return refuse(BAD_NUMBER);
        }
        if (chamber.many >= HEDGEHOG_ROOM) {
            return refuse(NO_ROOM);
        }
        past.clear();
        return accept(chamber.add(want, shy, 0));
    }

    public int watch(int one, int other, int is) {
        if (!isUpTo(is, 1) || one == other) {
            return refuse(BAD_NUMBER);
        }
        if (!chamber.has(one) || !chamber.has(other)) {
            return refuse(NO_SUCH);
        }
        return accept(chamber.setWatching(one, other, is));
    }

    public int of(int one, int what) {
        if (!chamber.has(one)) {
            return NONE;
        }
        Moment now = chamber.now;
        switch (what) {
            case 0: return now.want[one];
            case 1: return chamber.shy[one];
            case 2: return chamber.watches[one];
            case 3: return now.isOpen(one) ? 1 : 0;
            case 4: return now.still[one];
            default: return course.ask(chamber, one, what);
        }
    }

    public int terms(int what, int value) {
        if (!isUpTo(what, TERM_KINDS - 1) || !isUpTo(value, MOST_OF_TERM[what])) {
            return refuse(BAD_NUMBER);
        }
        int was = chamber.term(what);
        chamber.setTerm(what, value);
        past.clear();
        return accept(was);
    }

    public int feed(int a, int b, int c, int d, int e) {
        if (tapeSize + BYTES_FED > TAPE_ROOM) {
            return NONE;
        }
        putFour(a);
        putFour(b);
        putFour(c);
        putFour(d);
        putFour(e);
        return tapeSize;
    }

    public int end(int n) {
        if (!isUpTo(n, tapeSize)) {
            return NONE;
        }
        tapeSize = n;
        return n;
    }

    public int row() {
        if (tapeSize == 0) {
            return refuse(BAD_TEXT);
        }
        int came = 0;
        int bad = 0;
        for (int at = 0; at < tapeSize; at += 3) {
            if (addFromTape(at)) {
                came++;
            } else {
                bad++;
            }
        }
        tapeSize = 0;
        latestBurrs = bad;
        past.clear();
        return accept(came);
    }

    public int burrs() {
        return latestBurrs;
    }

    public int law() {
        if (chamber.lawMany >= LAW_ROOM) {
            tapeSize = 0;
            return refuse(NO_ROOM);
        }
        latestFault = reader.read(tape, tapeSize, false);
        tapeSize = 0;
        if (latestFault != NONE) {
            return refuse(BAD_TEXT);
        }
        return accept(chamber.addLaw(reader.text.trimmed()));
    }

    public int orders() {
        latestStop = NONE;
        latestFault = reader.read(tape, tapeSize, true);
        tapeSize = 0;
        if (latestFault != NONE) {
            return refuse(BAD_TEXT);
        }
        // On paper first: so nothing has to be taken back if one of them can't be.
        trial.copyFrom(chamber.now);
        latestStop = errand.runAll(reader.text, chamber, trial, course, null);
        if (latestStop != NONE) {
            return refuse(CANNOT_BE);
        }
        errand.runAll(reader.text, chamber, chamber.now, course, past);
        return accept(errand.done);
    }

    public int fault() {
        return latestFault;
    }

    public int stopped() {
        return latestStop;
    }

    public int force(int law) {
        if (law != NONE && chamber.lawAt(law) == null) {
            return refuse(NO_SUCH);
        }
        int was = chamber.force;
        chamber.force = law;
        return accept(was);
    }

    public int touch(int one) {
        return act(TOUCH, one, 0);
    }

    public int coax(int one) {
        return act(COAX, one, 0);
    }

    public int tempt(int one, int want) {
        return act(TEMPT, one, want);
    }

    public int pass() {
        return act(PASS, 0, 0);
    }

    public int undo() {
        int kind = past.takeBack(chamber.now);
        return kind == NONE ? refuse(CANNOT_BE) : accept(kind);
    }

    public int later(int n) {
        return isUpTo(n, FARTHEST) ? course.openBehind(chamber, chamber.now.open, n) : NONE;
    }

    public int opens(int one) {
        if (!chamber.has(one)) {
            return NONE;
        }
        return course.firstMinute(chamber, chamber.now.open, 0, 1 << one);
    }

    public int together() {
        return course.firstMinute(chamber, chamber.now.open, 0, chamber.everyone());
    }

    public int again() {
        course.follow(chamber);
        return course.firstReturn();
    }

    public int seeds(int what) {
        if (!isUpTo(what, 1)) {
            return NONE;
        }
        int shut = chamber.everyone() & ~chamber.now.open;
        return tellSet(course.fewestCoaxed(chamber, shut, chamber.everyone()), what);
    }

    public int seedsFor(int one, int what) {
        if (!isUpTo(what, 1) || !chamber.has(one)) {
            return NONE;
        }
        int others = chamber.everyone() & ~chamber.now.open & ~(1 << one);
        return tellSet(course.fewestCoaxed(chamber, others, 1 << one), what);
    }

    public int spread(int one) {
        if (!chamber.has(one)) {
            return NONE;
        }
        int open = chamber.now.open | 1 << one;
        int with = course.openBehind(chamber, open, FARTHEST);
        int without = course.openBehind(chamber, open & ~(1 << one), FARTHEST);
        return with & ~without;
    }

    public int held(int one, int what) {
        if (!isUpTo(what, 1) || !chamber.has(one) || chamber.now.isOpen(one)) {
            return NONE;
        }
        return tellSet(course.fewestHeld(chamber, one), what);
    }

    public int chain(int from, int to, int i) {
        if (!chamber.has(from) || !chamber.has(to)) {
            return NONE;
        }
        int many = paths.measure(chamber, from, to);
        return i == NONE ? many : paths.member(chamber, from, many, i);
    }

    public int knots() {
        return Integer.bitCount(paths.lowestOfKnots(chamber));
    }

    public int heads(int what) {
        return isUpTo(what, 1) ? tellSet(paths.fewestHeads(chamber), what) : NONE;
    }

    public int seen(int n, int is) {
        if (!isUpTo(n, FARTHEST) || !isUpTo(is, 1)) {
            return refuse(BAD_NUMBER);
        }
        if (chamber.seenMany >= SEEN_ROOM) {
            return refuse(NO_ROOM);
        }
        return accept(chamber.addSeen(n, is));
    }

    public int forget() {
        int was = chamber.seenMany;
        chamber.seenMany = 0;
        return was;
    }

    public int canBe() {
        course.follow(chamber);
        return course.likeSeen(chamber);
    }

    public int look(int what) {
        if (!isUpTo(what, 1)) {
            return NONE;
        }
        course.follow(chamber);
        int can = course.likeSeen(chamber);
        if (can == 0) {
            return NONE;
        }
        int n = course.bestLook(can);
        return what == 0 ? n : course.leftAt(can, n);
    }

    public long few(int k, int n) {
        if (k < 1 || k > MOST_FEW || !isUpTo(n, MOST_STARTING)) {
            return NONE;
        }
        Arrays.fill(chances, 0L);
        chances[0] = WHOLE_CHANCE;
        int starts = chamber.starts;
        for (int i = 0; i < n; i++) {
            for (int did = k - 1; did >= 0; did--) {
                long more = did > 0 ? chances[did - 1] * starts / 10 : 0;
                chances[did] = chances[did] * (10 - starts) / 10 + more;
            }
        }
        long sum = 0;
        for (int did = 0; did < k; did++) {
            sum += chances[did];
        }
        return sum;
    }

    public int compare(int law) {
        Text other = chamber.lawAt(law);
        if (law != NONE && other == null) {
            return NONE;
        }
        return course.openByLaw(chamber, other);
    }

    public int councils(int seed, int n) {
        if (!isUpTo(seed, MOST_SEED) || n < 1 || n > FARTHEST) {
            return refuse(BAD_NUMBER);
        }
        if (chamber.many == 0) {
            return refuse(CANNOT_BE);
        }
        drawnMoment.copyFrom(chamber.now);
        drawnMany = chamber.many;
        course.holdCouncils(chamber, drawnMoment, seed, n);
        return accept(drawnMoment.open);
    }

    public int drawn(int one, int what) {
        if (one < 0 || one >= drawnMany) {
            return NONE;
        }
        switch (what) {
            case 0: return drawnMoment.want[one];
            case 1: return drawnMoment.isOpen(one) ? 1 : 0;
            case 2: return drawnMoment.still[one];
            default: return NONE;
        }
    }

    public int image(int k) {
        if (!isUpTo(k, IMAGE_ROOM - 1)) {
            return refuse(BAD_NUMBER);
        }
        Chamber kept = images[k];
        if (kept == null) {
            kept = new Chamber();
            images[k] = kept;
        }
        kept.copyFrom(chamber);
        return accept(0);
    }

    public int back(int k) {
        if (!isUpTo(k, IMAGE_ROOM - 1)) {
            return refuse(BAD_NUMBER);
        }
        Chamber kept = images[k];
        if (kept == null) {
            return refuse(NO_SUCH);
        }
        chamber.copyFrom(kept);
        past.clear();
        return accept(0);
    }

    public int count(int what) {
        if (what >= 6 && what < 6 + REFUSAL_KINDS) {
            return refusals[what - 6];
        }
        if (what >= 12 && what < 12 + TERM_KINDS) {
            return chamber.term(what - 12);
        }
        switch (what) {
            case 0: return chamber.many;
            case 1: return chamber.now.openMany();
            case 2: return chamber.seenMany;
            case 3: return chamber.lawMany;
            case 4: return past.size;
            case 5: return tapeSize;
            case 11: return chamber.force;
            default: return NONE;
        }
    }

    public int status() {
        return latestRefusal;
    }

    private static boolean isUpTo(long number, int most) {
        return number >= 0 && number <= most;
    }

    private int accept(int answer) {
        latestRefusal = 0;
        return answer;
    }

    private int refuse(int why) {
        latestRefusal = why;
        // There is no -4, so that -5 and -6 stand one nearer.
        int kind = why >= CANNOT_BE ? -why - 1 : -why - 2;
        if (kind >= 0 && kind < refusals.length) {
            refusals[kind]++;
        }
        return why;
    }

    private int act(int kind, int one, int want) {
        int why = chamber.whyNot(chamber.now, kind, one, want);
        if (why != 0) {
            return refuse(why);
        }
        past.keep(kind, chamber.now);
        return accept(course.perform(chamber, chamber.now, kind, one, want));
    }

    private static int tellSet(int set, int what) {
        return set == NONE || what == 1 ? set : Integer.bitCount(set);
    }

    private void putFour(int number) {
        for (int shift = 24; shift >= 0 && tapeSize < TAPE_ROOM; shift -= 8) {
            tape[tapeSize] = number >> shift & 255;
            tapeSize++;
        }
    }

    private boolean addFromTape(int at) {
        if (at < 0 || at + 3 > tapeSize || at + 3 > TAPE_ROOM || chamber.many >= HEDGEHOG_ROOM) {
            return false;
        }
        int want = tape[at];
        int shy = tape[at + 1];
        int watches = tape[at + 2];
        if (!isUpTo(want, MOST_WANT) || !isUpTo(shy, MOST_WANT) || !isUpTo(watches, chamber.everyone())) {
            return false;
        }
        chamber.add(want, shy, watches);
        return true;
    }

    /** All that a MINUTE changes: what can be undone, and what is tried on paper. */
    private static final class Moment {
        int open = 0;
        int minute = 0;
        final int[] want = new int[HEDGEHOG_ROOM];
        final int[] still = new int[HEDGEHOG_ROOM];

        void copyFrom(Moment other) {
            open = other.open;
            minute = other.minute;
            System.arraycopy(other.want, 0, want, 0, HEDGEHOG_ROOM);
            System.arraycopy(other.still, 0, still, 0, HEDGEHOG_ROOM);
        }

        boolean isOpen(int one) {
            return (open >> one & 1) == 1;
        }

        int openMany() {
            return Integer.bitCount(open);
        }

        int shutOne(int one) {
            int was = isOpen(one) ? 1 : 0;
            open &= ~(1 << one);
            if (one >= 0 && one < HEDGEHOG_ROOM) {
                still[one] = 0;
            }
            return was;
        }

        void openOne(int one) {
            open |= 1 << one;
        }

        int changeWant(int one, int to) {
            if (one < 0 || one >= HEDGEHOG_ROOM) {
                return NONE;
            }
            int was = want[one];
            want[one] = to;
            return was;
        }
    }

    /** All that an IMAGE keeps. */
    private static final class Chamber {
        int many = 0;
        final Moment now = new Moment();
        final int[] shy = new int[HEDGEHOG_ROOM];
        final int[] watches = new int[HEDGEHOG_ROOM];
        int starts = 1;
        int hush = 0;
        int mood = 0;
        int seenMany = 0;
        final int[] seenMinute = new int[SEEN_ROOM];
        final int[] seenOpen = new int[SEEN_ROOM];
        int lawMany = 0;
        final Text[] laws = new Text[LAW_ROOM];
        int force = NONE;

        void copyFrom(Chamber other) {
            many = other.many;
            now.copyFrom(other.now);
            System.arraycopy(other.shy, 0, shy, 0, HEDGEHOG_ROOM);
            System.arraycopy(other.watches, 0, watches, 0, HEDGEHOG_ROOM);
            starts = other.starts;
            hush = other.hush;
            mood = other.mood;
            seenMany = other.seenMany;
            System.arraycopy(other.seenMinute, 0, seenMinute, 0, SEEN_ROOM);
            System.arraycopy(other.seenOpen, 0, seenOpen, 0, SEEN_ROOM);
            lawMany = other.lawMany;
            for (int i = 0; i < LAW_ROOM; i++) {
                laws[i] = other.laws[i];
            }
            force = other.force;
        }

        boolean has(long one) {
            return one >= 0 && one < many && one < HEDGEHOG_ROOM;
        }

        int everyone() {
            return (1 << many) - 1;
        }

        int add(int want, int shyness, int watched) {
            int one = many;
            if (one >= HEDGEHOG_ROOM) {
                return NONE;
            }
            many++;
            now.want[one] = want;
            now.shutOne(one);
            shy[one] = shyness;
            watches[one] = watched;
            return one;
        }

        int setWatching(int one, int other, int is) {
            if (!has(one) || !has(other)) {
                return NONE;
            }
            int was = watches[one] >> other & 1;
            watches[one] = watches[one] & ~(1 << other) | is << other;
            return was;
        }

        int term(int what) {
            switch (what) {
                case TERM_MINUTE: return now.minute;
                case TERM_STARTS: return starts;
                case TERM_HUSH: return hush;
                case TERM_MOOD: return mood;
                default: return NONE;
            }
        }

        void setTerm(int what, int value) {
            switch (what) {
                case TERM_MINUTE: now.minute = value; break;
                case TERM_STARTS: starts = value; break;
                case TERM_HUSH: hush = value; break;
                case TERM_MOOD: mood = value; break;
                default: break;
            }
        }

        int addSeen(int minute, int is) {
            if (seenMany < SEEN_ROOM) {
                seenMinute[seenMany] = minute;
                seenOpen[seenMany] = is;
                seenMany++;
            }
            return seenMany;
        }

        int addLaw(Text law) {
            int number = lawMany;
            if (number >= LAW_ROOM) {
                return NONE;
            }
            laws[number] = law;
            lawMany++;
            return number;
        }

        Text lawAt(int number) {
            return number >= 0 && number < lawMany && number < LAW_ROOM ? laws[number] : null;
        }

        Text lawInForce() {
            return lawAt(force);
        }

        /** By what touch(), coax(), tempt(), pass() would be REFUSED at a moment; 0 if they would not. */
        int whyNot(Moment moment, int kind, long one, long want) {
            if (kind == PASS) {
                return moment.minute >= LAST_MINUTE ? CANNOT_BE : 0;
            }
            if (kind == TEMPT && !isUpTo(want, MOST_WANT)) {
                return BAD_NUMBER;
            }
            if (!has(one)) {
                return NO_SUCH;
            }
            boolean isSo = kind == COAX && moment.isOpen((int) one)
                || kind == TEMPT && moment.want[(int) one] == want;
            return isSo ? CANNOT_BE : 0;
        }
    }

    /** The latest moments ahead of what can be undone. */
    private static final class Past {
        int size = 0;
        private int next = 0;
        private final int[] kinds = new int[UNDO_ROOM];
        private final Moment[] moments = new Moment[UNDO_ROOM];

        void clear() {
            size = 0;
        }

        void keep(int kind, Moment moment) {
            if (next < 0 || next >= UNDO_ROOM) {
                next = 0;
            }
            Moment kept = moments[next];
            if (kept == null) {
                kept = new Moment();
                moments[next] = kept;
            }
            kept.copyFrom(moment);
            kinds[next] = kind;
            next = (next + 1) % UNDO_ROOM;
            size = Math.min(size + 1, UNDO_ROOM);
        }

        int takeBack(Moment moment) {
            int latest = (next + UNDO_ROOM - 1) % UNDO_ROOM;
            if (size == 0 || latest < 0 || moments[latest] == null) {
                return NONE;
            }
            moment.copyFrom(moments[latest]);
            next = latest;
            size--;
            return kinds[latest];
        }
    }

    /** A TEXT that was read: its CLAUSES, and the steps of their SUMS and TESTS. */
    private static final class Text {
        int clauses = 0;
        int steps = 0;
        boolean asksTime = false;
        final int[] kind;
        final int[] first;
        final int[] second;
        final int[] test;
        final int[] times;
        final int[] code;

        Text(int clauseRoom, int codeRoom) {
            kind = new int[clauseRoom];
            first = new int[clauseRoom];
            second = new int[clauseRoom];
            test = new int[clauseRoom];
            times = new int[clauseRoom];
            code = new int[codeRoom];
        }

        /** A copy no larger than it must be, as the reader writes its next TEXT over this one. */
        Text trimmed() {
            int many = Math.max(0, Math.min(clauses, kind.length));
            int used = Math.max(0, Math.min(steps, code.length));
            Text copy = new Text(many, used);
            copy.clauses = many;
            copy.steps = used;
            copy.asksTime = asksTime;
            System.arraycopy(kind, 0, copy.kind, 0, many);
            System.arraycopy(first, 0, copy.first, 0, many);
            System.arraycopy(second, 0, copy.second, 0, many);
            System.arraycopy(test, 0, copy.test, 0, many);
            System.arraycopy(times, 0, copy.times, 0, many);
            System.arraycopy(code, 0, copy.code, 0, used);
            return copy;
        }

        void clear() {
            clauses = 0;
            steps = 0;
            asksTime = false;
        }

        /** A CLAUSE without SUMS, TEST, TIMES as yet; false if there is no room. */
        boolean addClause(int clauseKind) {
            if (clauses >= kind.length) {
                return false;
            }
            kind[clauses] = clauseKind;
            first[clauses] = NONE;
            second[clauses] = NONE;
            test[clauses] = NONE;
            times[clauses] = 1;
            clauses++;
            return true;
        }

        /** Where the step stands. */
        int addStep(int step, int with) {
            int place = steps;
            if (place < code.length) {
                code[place] = with << STEP_BITS | step;
                steps++;
            }
            return place;
        }

        /** The step at a place goes on at the next one to come, where it may leave out what is between. */
        void aimHere(int place) {
            if (place >= 0 && place < code.length) {
                code[place] = steps << STEP_BITS | code[place] & STEP_MASK;
            }
        }
    }

    /** Reads a TEXT from left to right, one TOKEN at hand; each read.. is false if there was a FAULT. */
    private static final class Reader {
        final Text text = new Text(MOST_CLAUSES, CODE_ROOM);
        private final int[] tokens = new int[TAPE_ROOM + 1];
        private final int[] places = new int[TAPE_ROOM + 1];
        private int tokenMany = 0;
        private int at = 0;
        private int token = NO_TOKEN;
        private boolean isOrders = false;
        private int parts = 0;
        private int depth = 0;
        private int faultPlace = NONE;

        /** The place of the FAULT, NONE without. */
        int read(int[] tape, int tapeLength, boolean asOrders) {
            int length = Math.max(0, Math.min(tapeLength, Math.min(tape.length, TAPE_ROOM)));
            splitTokens(tape, length);
            isOrders = asOrders;
            parts = 0;
            depth = 0;
            faultPlace = NONE;
            text.clear();
            at = 0;
            token = tokens[0];
            boolean isFine = readClause();
            for (int i = 0; i < TAPE_ROOM && isFine && token == ';'; i++) {
                nextToken();
                isFine = readClause();
            }
            if (isFine && at < tokenMany) {
                faultHere();
            }
            return faultPlace;
        }

        private void splitTokens(int[] tape, int length) {
            tokenMany = 0;
            int i = 0;
            while (i < length && tokenMany < TAPE_ROOM) {
                int start = i;
                i++;
                if (isLetter(tape[start])) {
                    while (i < length && isLetter(tape[i])) {
                        i++;
                    }
                    addToken(start, wordToken(tape, start, i));
                } else if (isDigit(tape[start])) {
                    while (i < length && isDigit(tape[i])) {
                        i++;
                    }
                    addToken(start, numberToken(tape, start, i));
                } else if (tape[start] != ' ') {
                    addToken(start, tape[start]);
                }
            }
            tokens[tokenMany] = NO_TOKEN;
            places[tokenMany] = length;
        }

        private void addToken(int place, int told) {
            tokens[tokenMany] = told;
            places[tokenMany] = place;
            tokenMany++;
        }

        private static boolean isLetter(int sign) {
            return sign >= 'a' && sign <= 'z';
        }

        private static boolean isDigit(int sign) {
            return sign >= '0' && sign <= '9';
        }

        private static int wordToken(int[] tape, int start, int stop) {
            int word = FIRST_WORD;
            int from = 0;
            for (int i = 0; i < WORDS.length(); i++) {
                if (WORDS.charAt(i) == ' ') {
                    if (i - from == stop - start && isSpelledAt(tape, start, from, i)) {
                        return word;
                    }
                    word++;
                    from = i + 1;
                }
            }
            return NO_TOKEN;
        }

        private static boolean isSpelledAt(int[] tape, int start, int from, int to) {
            for (int i = from; i < to; i++) {
                if (tape[start + i - from] != WORDS.charAt(i)) {
                    return false;
                }
            }
            return true;
        }

        private static int numberToken(int[] tape, int start, int stop) {
            int number = 0;
            for (int i = start; i < stop && number <= MOST_NUMBER; i++) {
                number = number * 10 + tape[i] - '0';
            }
            return number <= MOST_NUMBER ? FIRST_NUMBER + number : NO_TOKEN;
        }

        private void nextToken() {
            if (at < tokenMany) {
                at++;
            }
            token = tokens[at];
        }

        private boolean take(int wanted) {
            if (token != wanted) {
                return false;
            }
            nextToken();
            return true;
        }

        /** NONE if the TOKEN at hand is no NUMBER, or one beyond the most. */
        private int numberAtHand(int most) {
            return token >= FIRST_NUMBER && token <= FIRST_NUMBER + most ? token - FIRST_NUMBER : NONE;
        }

        private boolean faultHere() {
            faultPlace = places[at];
            return false;
        }

        private boolean readClause() {
            int first = isOrders ? WORD_TOUCH : WORD_NEEDS;
            int last = isOrders ? WORD_PASS : WORD_SHUTS;
            int kind = token - first;
            if (token < first || token > last || !text.addClause(kind)) {
                return faultHere();
            }
            nextToken();
            int clause = text.clauses - 1;
            boolean isFine = isOrders ? readOrder(clause, kind) : readLaw(clause, kind);
            if (isFine && take(WORD_IF)) {
                text.test[clause] = text.steps;
                isFine = readTest();
                text.addStep(STEP_END, 0);
            }
            return isFine;
        }

        private boolean readLaw(int clause, int kind) {
            if (kind == SHUTS) {
                return true;
            }
            text.first[clause] = text.steps;
            boolean isFine = readSum();
            text.addStep(STEP_END, 0);
            return isFine;
        }

        private boolean readOrder(int clause, int kind) {
            boolean isFine = true;
            if (kind != PASS) {
                text.first[clause] = text.steps;
                isFine = readSum();
                text.addStep(STEP_END, 0);
            }
            if (isFine && kind == TEMPT) {
                if (!take(WORD_TO)) {
                    return faultHere();
                }
                text.second[clause] = text.steps;
                isFine = readSum();
                text.addStep(STEP_END, 0);
            }
            if (isFine && take(WORD_TIMES)) {
                int number = numberAtHand(MOST_TIMES);
                if (number < 1) {
                    return faultHere();
                }
                text.times[clause] = number;
                nextToken();
            }
            return isFine;
        }

        private boolean readTest() {
            boolean isFine = readBoth();
            for (int i = 0; i < TAPE_ROOM && isFine && take(WORD_OR); i++) {
                int step = text.addStep(STEP_OR, 0);
                isFine = readBoth();
                text.aimHere(step);
            }
            return isFine;
        }

        private boolean readBoth() {
            boolean isFine = readPlain();
            for (int i = 0; i < TAPE_ROOM && isFine && take(WORD_AND); i++) {
                int step = text.addStep(STEP_AND, 0);
                isFine = readPlain();
                text.aimHere(step);
            }
            return isFine;
        }

        private boolean readPlain() {
            // A loop: a TEXT has room for more "not" than calls should stand open at once.
            boolean isTurned = false;
            for (int i = 0; i < TAPE_ROOM && take(WORD_NOT); i++) {
                isTurned = !isTurned;
            }
            boolean isFine = token == '(' ? readBrackets(true) : readComparison();
            if (isFine && isTurned) {
                text.addStep(STEP_NOT, 0);
            }
            return isFine;
        }

        private boolean readComparison() {
            if (!readSum()) {
                return false;
            }
            int step = token == '<' ? STEP_LESS : token == '>' ? STEP_MORE : STEP_SAME;
            if (step == STEP_SAME && token != '=') {
                return faultHere();
            }
            nextToken();
            boolean isFine = readSum();
            text.addStep(step, 0);
            return isFine;
        }

        private boolean readSum() {
            boolean isFine = readTerm();
            for (int i = 0; i < TAPE_ROOM && isFine && (token == '+' || token == '-'); i++) {
                int step = token == '+' ? STEP_ADD : STEP_TAKE;
                nextToken();
                isFine = readTerm();
                text.addStep(step, 0);
            }
            return isFine;
        }

        private boolean readTerm() {
            boolean isFine = readPart();
            for (int i = 0; i < TAPE_ROOM && isFine && (token == '*' || token == '/' || token == '%'); i++) {
                int step = token == '*' ? STEP_TIMES : token == '/' ? STEP_DIVIDE : STEP_REST;
                nextToken();
                isFine = readPart();
                text.addStep(step, 0);
            }
            return isFine;
        }

        private boolean readPart() {
            if (token == '[') {
                return readBrackets(false);
            }
            int number = numberAtHand(MOST_NUMBER);
            int word = token - WORD_WHO;
            boolean isWord = isOrders ? isOrderWord(word) : token >= WORD_WHO && token <= WORD_MOOD;
            if (number == NONE && !isWord || parts >= MOST_PARTS) {
                return faultHere();
            }
            parts++;
            nextToken();
            if (number != NONE) {
                text.addStep(STEP_NUMBER, number);
                return true;
            }
            if (isOrders && firstOf(word) != NONE) {
                return readOne(firstOf(word));
            }
            text.addStep(STEP_WORD, word);
            text.asksTime |= word == STILL || word == MINUTE;
            return true;
        }

        private static boolean isOrderWord(int word) {
            return word == MINUTE || word == DONE || word == LATEST || word == ALL || firstOf(word) != NONE;
        }

        /** Where the values of a word start that ORDERS ask of a HEDGEHOG; NONE for others. */
        private static int firstOf(int word) {
            switch (word) {
                case WANT: return WANT_OF;
                case STILL: return STILL_OF;
                case IS: return IS_OF;
                default: return NONE;
            }
        }

        private boolean readOne(int firstValue) {
            int one = numberAtHand(HEDGEHOG_ROOM - 1);
            if (one == NONE) {
                return faultHere();
            }
            text.addStep(STEP_WORD, firstValue + one);
            nextToken();
            return true;
        }

        private boolean readBrackets(boolean isRound) {
            if (depth >= MOST_DEPTH) {
                return faultHere();
            }
            depth++;
            nextToken();
            if (!(isRound ? readTest() : readSum())) {
                return false;
            }
            depth--;
            return take(isRound ? ')' : ']') || faultHere();
        }
    }

    /** Runs the steps of a SUM, a TEST, by what the words stand for just now. */
    private static final class Reckoner {
        final int[] values = new int[VALUE_ROOM];
        private final long[] stack = new long[STACK_ROOM];

        /** What a SUM is; 1 or 0 for a TEST; BROKEN. */
        long reckon(Text text, int from) {
            int[] code = text.code;
            int at = from;
            int top = 0;
            // Steps lead on to later ones alone: none is run twice.
            for (int run = 0; run < code.length; run++) {
                if (at < 0 || at >= code.length || top < 0 || top >= STACK_ROOM) {
                    return BROKEN;
                }
                int step = code[at] & STEP_MASK;
                int with = code[at] >> STEP_BITS;
                at++;
                if (step == STEP_NUMBER) {
                    stack[top] = with;
                    top++;
                } else if (step == STEP_WORD) {
                    stack[top] = with >= 0 && with < VALUE_ROOM ? values[with] : 0;
                    top++;
                } else if (top < 1) {
                    return BROKEN;
                } else if (step == STEP_END) {
                    return stack[top - 1];
                } else if (step == STEP_NOT) {
                    stack[top - 1] = 1 - stack[top - 1];
                } else if (step == STEP_AND || step == STEP_OR) {
                    // What stands behind is asked only if it can still matter.
                    if (stack[top - 1] == (step == STEP_OR ? 1 : 0)) {
                        at = with;
                    } else {
                        top--;
                    }
                } else if (top < 2) {
                    return BROKEN;
                } else {
                    top--;
                    stack[top - 1] = join(step, stack[top - 1], stack[top]);
                    if (stack[top - 1] == BROKEN) {
                        return BROKEN;
                    }
                }
            }
            return BROKEN;
        }

        private static long join(int step, long a, long b) {
            long value;
            switch (step) {
                case STEP_LESS: return a < b ? 1 : 0;
                case STEP_MORE: return a > b ? 1 : 0;
                case STEP_SAME: return a == b ? 1 : 0;
                case STEP_ADD: value = a + b; break;
                case STEP_TAKE: value = a - b; break;
                case STEP_TIMES: value = a * b; break;
                case STEP_DIVIDE: value = b == 0 ? BROKEN : a / b; break;
                case STEP_REST: value = b == 0 ? BROKEN : a % b; break;
                default: return BROKEN;
            }
            return value > MOST_VALUE || value < -MOST_VALUE ? BROKEN : value;
        }
    }

    /** How MINUTES go by a LAW, as they do and on paper. */
    private static final class Course {
        private final Reckoner reckoner = new Reckoner();
        private final Moment paper = new Moment();
        private final int[] comesTo = new int[HEDGEHOG_ROOM];
        private final int[] openAt = new int[FARTHEST + 1];

        int ask(Chamber chamber, int one, int what) {
            if (!chamber.has(one)) {
                return NONE;
            }
            Text law = chamber.lawInForce();
            int want = chamber.now.want[one];
            hear(chamber, chamber.now, one);
            switch (what) {
                case 5: return told(law, NEEDS, want);
                case 6: return told(law, WANTS, want);
                case 7: return told(law, SHUTS, 0);
                case 8: return openBehind(chamber, chamber.now.open, 1) >> one & 1;
                default: return NONE;
            }
        }

        int perform(Chamber chamber, Moment moment, int kind, int one, int want) {
            switch (kind) {
                case TOUCH:
                    return moment.shutOne(one);
                case COAX:
                    moment.openOne(one);
                    return moment.openMany();
                case TEMPT:
                    return moment.changeWant(one, want);
                default:
                    passMinute(chamber, moment, chamber.lawInForce(), 0);
                    return moment.openMany();
            }
        }

        /** Those held stay SHUT, whatever they NEED. False if no MINUTE behind it can change anything but time. */
        private boolean passMinute(Chamber chamber, Moment moment, Text law, int heldSet) {
            int next = 0;
            boolean isMoving = law != null && law.asksTime;
            for (int h = 0; h < chamber.many && h < HEDGEHOG_ROOM; h++) {
                hear(chamber, moment, h);
                int want = moment.want[h];
                boolean isOpenNext = moment.isOpen(h)
                    ? told(law, SHUTS, 0) == 0
                    : reckoner.values[NEAR] >= told(law, NEEDS, want);
                next |= isOpenNext ? 1 << h : 0;
                comesTo[h] = told(law, WANTS, want);
                isMoving |= comesTo[h] != want;
            }
            next &= ~heldSet;
            isMoving |= next != moment.open;
            for (int h = 0; h < chamber.many && h < HEDGEHOG_ROOM; h++) {
                moment.want[h] = comesTo[h];
                moment.still[h] = Math.min(moment.still[h] + 1, MOST_STILL);
            }
            moment.open = next;
            moment.minute++;
            return isMoving;
        }

        /** What the words of LAWS stand for, asked of one: told() goes by it. */
        private void hear(Chamber chamber, Moment moment, int one) {
            int[] values = reckoner.values;
            values[WHO] = one;
            values[WANT] = moment.want[one];
            values[SHY] = chamber.shy[one];
            values[NEAR] = Integer.bitCount(chamber.watches[one] & moment.open);
            values[ALL] = moment.openMany();
            values[STILL] = moment.still[one];
            values[MINUTE] = moment.minute;
            values[HUSH] = chamber.hush;
            values[MOOD] = chamber.mood;
        }

        /** What the last CLAUSE of a kind that HOLDS tells, the nearest of 0 .. 9 ("shuts": 1). */
        private int told(Text law, int kind, int without) {
            if (law == null) {
                return without;
            }
            for (int i = law.clauses - 1; i >= 0; i--) {
                if (law.kind[i] == kind && (law.test[i] == NONE || reckoner.reckon(law, law.test[i]) == 1)) {
                    long value = kind == SHUTS ? 1 : reckoner.reckon(law, law.first[i]);
                    if (value != BROKEN) {
                        return (int) Math.max(0, Math.min(value, MOST_WANT));
                    }
                }
            }
            return without;
        }

        private void begin(Chamber chamber, int open) {
            paper.copyFrom(chamber.now);
            paper.open = open;
        }

        int openBehind(Chamber chamber, int open, int n) {
            begin(chamber, open);
            Text law = chamber.lawInForce();
            boolean isMoving = true;
            for (int i = 0; i < n && isMoving; i++) {
                isMoving = passMinute(chamber, paper, law, 0);
            }
            return paper.open;
        }

        int openByLaw(Chamber chamber, Text law) {
            begin(chamber, chamber.now.open);
            passMinute(chamber, paper, law, 0);
            return paper.openMany();
        }

        /** The least n at which all of those wanted are OPEN together; NONE without. */
        int firstMinute(Chamber chamber, int open, int heldSet, int wanted) {
            begin(chamber, open & ~heldSet);
            Text law = chamber.lawInForce();
            boolean isMoving = true;
            for (int n = 0; n <= FARTHEST && isMoving; n++) {
                if ((paper.open & wanted) == wanted) {
                    return n;
                }
                isMoving = passMinute(chamber, paper, law, heldSet);
            }
            return NONE;
        }

        int fewestCoaxed(Chamber chamber, int among, int wanted) {
            for (int size = 0; size <= HEDGEHOG_ROOM; size++) {
                for (int set = 0; set <= among; set++) {
                    if (isPart(set, among, size)
                        && firstMinute(chamber, chamber.now.open | set, 0, wanted) != NONE) {
                        return set;
                    }
                }
            }
            return NONE;
        }

        int fewestHeld(Chamber chamber, int one) {
            int others = chamber.everyone() & ~(1 << one);
            for (int size = 0; size <= HEDGEHOG_ROOM; size++) {
                for (int set = 0; set <= others; set++) {
                    if (isPart(set, others, size)
                        && firstMinute(chamber, chamber.now.open, set, 1 << one) == NONE) {
                        return set;
                    }
                }
            }
            return NONE;
        }

        private static boolean isPart(int set, int among, int size) {
            return Integer.bitCount(set) == size && (set & ~among) == 0;
        }

        /** Who is OPEN at each of the MINUTES 0 .. 60 on: what is below goes by it. */
        void follow(Chamber chamber) {
            begin(chamber, chamber.now.open);
            Text law = chamber.lawInForce();
            openAt[0] = paper.open;
            for (int n = 1; n <= FARTHEST; n++) {
                passMinute(chamber, paper, law, 0);
                openAt[n] = paper.open;
            }
        }

        int firstReturn() {
            for (int n = 1; n <= FARTHEST; n++) {
                if (openAt[n] == openAt[0]) {
                    return n;
                }
            }
            return NONE;
        }

        int likeSeen(Chamber chamber) {
            int can = chamber.everyone();
            for (int i = 0; i < chamber.seenMany && i < SEEN_ROOM; i++) {
                int n = chamber.seenMinute[i];
                int open = n >= 0 && n <= FARTHEST ? openAt[n] : 0;
                can &= chamber.seenOpen[i] == 1 ? open : ~open;
            }
            return can;
        }

        int bestLook(int can) {
            int best = 0;
            for (int n = 1; n <= FARTHEST; n++) {
                if (leftAt(can, n) < leftAt(can, best)) {
                    best = n;
                }
            }
            return best;
        }

        int leftAt(int can, int n) {
            if (n < 0 || n > FARTHEST) {
                return NONE;
            }
            return Math.max(Integer.bitCount(can & openAt[n]), Integer.bitCount(can & ~openAt[n]));
        }

        void holdCouncils(Chamber chamber, Moment moment, int seed, int n) {
            if (chamber.many < 1) {
                return;
            }
            Text law = chamber.lawInForce();
            int s = seed;
            for (int i = 0; i < n && moment.minute < LAST_MINUTE; i++) {
                s = nextDraw(s);
                int one = s % chamber.many;
                s = nextDraw(s);
                int want = s % 10;
                s = nextDraw(s);
                switch (s % 4) {
                    case 0: moment.shutOne(one); break;
                    case 1: moment.openOne(one); break;
                    case 2: moment.changeWant(one, want); break;
                    default: break;
                }
                passMinute(chamber, moment, law, 0);
            }
        }

        private static int nextDraw(int s) {
            return (int) ((s * 1103L + 12345L) % 1000003L);
        }
    }

    /** Runs ORDERS. */
    private static final class Errand {
        int done = 0;
        private int latest = NONE;
        private final Reckoner reckoner = new Reckoner();

        /** Which CLAUSE can't be; NONE if all can. Without a past they are run on paper. */
        int runAll(Text text, Chamber chamber, Moment moment, Course course, Past past) {
            done = 0;
            latest = NONE;
            for (int i = 0; i < text.clauses && i < text.times.length; i++) {
                for (int time = 0; time < text.times[i]; time++) {
                    if (!runOnce(text, i, chamber, moment, course, past)) {
                        return i;
                    }
                }
            }
            return NONE;
        }

        private boolean runOnce(Text text, int clause, Chamber chamber, Moment moment, Course course, Past past) {
            hear(chamber, moment);
            if (text.test[clause] != NONE && reckoner.reckon(text, text.test[clause]) != 1) {
                return true;
            }
            int kind = text.kind[clause];
            long one = sumAt(text, text.first[clause]);
            long want = sumAt(text, text.second[clause]);
            if (one == BROKEN || want == BROKEN || chamber.whyNot(moment, kind, one, want) != 0) {
                return false;
            }
            if (past != null) {
                past.keep(kind, moment);
            }
            int answer = course.perform(chamber, moment, kind, (int) one, (int) want);
            done++;
            latest = kind == PASS ? answer : latest;
            return true;
        }

        private long sumAt(Text text, int from) {
            return from == NONE ? 0 : reckoner.reckon(text, from);
        }

        /** What the words of ORDERS stand for. */
        private void hear(Chamber chamber, Moment moment) {
            int[] values = reckoner.values;
            values[MINUTE] = moment.minute;
            values[DONE] = done;
            values[LATEST] = latest;
            values[ALL] = moment.openMany();
            for (int h = 0; h < HEDGEHOG_ROOM; h++) {
                boolean isThere = chamber.has(h);
                values[WANT_OF + h] = isThere ? moment.want[h] : NONE;
                values[STILL_OF + h] = isThere ? moment.still[h] : NONE;
                values[IS_OF + h] = isThere ? moment.open >> h & 1 : NONE;
            }
        }
    }

    /** CHAINS, KNOTS, HEADS: who WATCHES whom, laws aside. */
    private static final class Paths {
        // Those from whom the CHAIN to the one asked for has so many HEDGEHOGS.
        private final int[] layers = new int[HEDGEHOG_ROOM];
        private final int[] sources = new int[HEDGEHOG_ROOM];

        /** How many HEDGEHOGS the CHAIN has; NONE if there is none. */
        int measure(Chamber chamber, int from, int to) {
            int layer = 1 << to;
            int found = layer;
            for (int many = 0; many < HEDGEHOG_ROOM; many++) {
                layers[many] = layer;
                if ((layer >> from & 1) == 1) {
                    return many;
                }
                layer = watchedBy(chamber, layer) & ~found;
                found |= layer;
            }
            return NONE;
        }

        /** The i-th of the CHAIN that was measured last. */
        int member(Chamber chamber, int from, int many, int i) {
            if (i < 0 || i >= many || many > HEDGEHOG_ROOM) {
                return NONE;
            }
            int one = from;
            for (int k = 0; k <= i; k++) {
                one = lowestWatcher(chamber, layers[many - 1 - k], one);
            }
            return one;
        }

        private static int watchedBy(Chamber chamber, int set) {
            int watched = 0;
            for (int h = 0; h < HEDGEHOG_ROOM; h++) {
                if ((set >> h & 1) == 1) {
                    watched |= chamber.watches[h];
                }
            }
            return watched;
        }

        private static int lowestWatcher(Chamber chamber, int among, int one) {
            for (int h = 0; h < HEDGEHOG_ROOM; h++) {
                if ((among >> h & 1) == 1 && (chamber.watches[h] >> one & 1) == 1) {
                    return h;
                }
            }
            return NONE;
        }

        /** For each the set of those from whom there is a CHAIN to it, itself, too. */
        private void findSources(Chamber chamber) {
            for (int h = 0; h < HEDGEHOG_ROOM; h++) {
                int set = 1 << h;
                for (int i = 0; i < HEDGEHOG_ROOM; i++) {
                    set |= watchedBy(chamber, set);
                }
                sources[h] = set;
            }
        }

        private int knotOf(int one) {
            int knot = 0;
            for (int h = 0; h < HEDGEHOG_ROOM; h++) {
                if (one >= 0 && one < HEDGEHOG_ROOM
                    && (sources[one] >> h & 1) == 1 && (sources[h] >> one & 1) == 1) {
                    knot |= 1 << h;
                }
            }
            return knot;
        }

        /** The lowest HEDGEHOG of each KNOT. */
        int lowestOfKnots(Chamber chamber) {
            findSources(chamber);
            int lowest = 0;
            for (int h = 0; h < chamber.many && h < HEDGEHOG_ROOM; h++) {
                if (Integer.lowestOneBit(knotOf(h)) == 1 << h) {
                    lowest |= 1 << h;
                }
            }
            return lowest;
        }

        /** One of each KNOT to which there is no CHAIN from without. */
        int fewestHeads(Chamber chamber) {
            int lowest = lowestOfKnots(chamber);
            int chosen = 0;
            for (int h = 0; h < HEDGEHOG_ROOM; h++) {
                if ((lowest >> h & 1) == 1 && sources[h] == knotOf(h)) {
                    chosen |= 1 << h;
                }
            }
            return chosen;
        }
    }
}
