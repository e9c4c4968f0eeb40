import java.util.Arrays;

/** Two wheels on one pin, names outside and jobs inside; ../shared/DOC.md tells what each call answers. */
public final class KitchenWheels {
    public static final int NONE = -1000000, BAD = -1000001, STATE = -1000002, FULL = -1000003;

    private static final int FOUND = -1000010, FAULTY = -1000100;
    private static final int NULL = 1, PLACE = 2, KIND = 3, SIZE = 4, STORE = 5;
    private static final int PEOPLE = 6, JOBS = 6, EMPTY = 6, SLOTS = 8, TURNERS = 4, LAST_KIND = 5;
    private static final int ROWS = 8, LAST_LANE = 2, ITEMS = 40, BYTES = 80;
    private static final int ACTS = 24, IMAGES = 2, LAST_WEEK = 999;
    private static final int MANY = 1000000, FAR = 60, SEEN_WEEKS = 12, FORGOTTEN_WEEKS = 8, LAST_SEED = 999999;

    private final Rows rows = new Rows();
    private final Tape tape = new Tape();
    private final Kitchen now = new Kitchen();
    private final Foreteller foreteller = new Foreteller();
    private final Trace bodies = new Trace();
    private final Kitchen[] acts = new Kitchen[ACTS];
    private final Kitchen[] images = new Kitchen[IMAGES];
    private int oldestAct;
    private int keptActs;
    private int latestFault;
    private int latestFinding;

    public KitchenWheels() {
    }

    // ---- rows

    public int row(int row, int lane, int n) {
        if (!Rows.isRow(row) || !within(lane, 0, LAST_LANE) || n > ITEMS) {
            return BAD;
        }
        if (n < 0) {
            return finding(SIZE);
        }
        rows.lay(row, lane, n);
        return unfound(n);
    }

    public int set(int row, int i, int v) {
        if (!Rows.isRow(row)) {
            return BAD;
        }
        int wrong = rows.findingAt(row, i, 1);
        return wrong != 0 ? finding(wrong) : unfound(rows.put(row, i, v));
    }

    public int copy(int a, int i, int b, int j, int n) {
        if (!Rows.isRow(a) || !Rows.isRow(b)) {
            return BAD;
        }
        if (rows.isMissing(a) || rows.isMissing(b)) {
            return finding(NULL);
        }
        if (rows.laneOf(a) != rows.laneOf(b)) {
            return finding(STORE);
        }
        if (rows.findingAt(a, i, n) != 0 || rows.findingAt(b, j, n) != 0) {
            return finding(PLACE);
        }
        rows.move(a, i, b, j, n);
        return unfound(n);
    }

    public int drop(int row) {
        if (!Rows.isRow(row)) {
            return BAD;
        }
        return rows.isMissing(row) ? finding(NULL) : unfound(rows.lose(row));
    }

    // ---- what is told

    public int feed(int letter) {
        if (!within(letter, 0, 255)) {
            return BAD;
        }
        return tape.take(letter) ? tape.length : FULL;
    }

    public int kitchen() {
        boolean sound = tape.read();
        tape.length = 0;
        if (!sound) {
            latestFault = tape.faultNumber;
            return FAULTY - tape.place;
        }
        now.become(tape.draft);
        forgetActs();
        return now.turnerCount;
    }

    public int fault() {
        return latestFault;
    }

    public int undo() {
        if (keptActs == 0) {
            return STATE;
        }
        keptActs--;
        Kitchen before = acts[rest(oldestAct + keptActs, ACTS)];
        if (before != null) {
            now.become(before);
        }
        return keptActs;
    }

    // ---- what is done

    public int weeks(int n) {
        if (!now.isThere()) {
            return STATE;
        }
        if (!within(n, 1, ACTS)) {
            return BAD;
        }
        if (now.week + n > LAST_WEEK) {
            return FULL;
        }
        for (int i = 0; i < n; i++) {
            keepAct();
            now.passWeek();
        }
        return now.turned;
    }

    public int leave(int person) {
        if (!now.isThere()) {
            return STATE;
        }
        if (!isPerson(person)) {
            return BAD;
        }
        if (holds(now.away, person)) {
            return STATE;
        }
        keepAct();
        now.away |= 1 << person;
        return now.away;
    }

    public int name(int slot, int person) {
        return now.isThere() ? write(now.names, now.nameSlots, slot, person) : STATE;
    }

    public int job(int slot, int what) {
        return now.isThere() ? write(now.jobs, now.jobSlots, slot, what) : STATE;
    }

    public int turn(int n) {
        if (!now.isThere()) {
            return STATE;
        }
        if (!within(n, 1, 8)) {
            return BAD;
        }
        keepAct();
        now.turned = rest(now.turned + n, now.jobSlots);
        return now.turned;
    }

    public int done(int person, int job) {
        if (!now.isThere()) {
            return STATE;
        }
        return isPerson(person) && isJob(job) ? now.times[person * JOBS + job] : BAD;
    }

    public int slot(int slot, int what) {
        if (!now.isThere()) {
            return STATE;
        }
        if (!within(slot, 0, SLOTS - 1) || !within(what, 0, 2)) {
            return BAD;
        }
        if (slot >= (what == 1 ? now.jobSlots : now.nameSlots)) {
            return NONE;
        }
        switch (what) {
            case 0:
                return now.names[slot];
            case 1:
                return now.jobs[slot];
            default:
                return now.jobHad(slot, now.turned);
        }
    }

    public int turner(int turner, int what) {
        Turner one = now.turnerAt(turner);
        if (one == null || !within(what, 0, 1)) {
            return BAD;
        }
        return what == 0 ? one.by : 1000 + one.howFar(now.week);
    }

    // ---- foretold

    public int hasJobs(int person, int n) {
        if (!now.isThere()) {
            return STATE;
        }
        if (!isPerson(person) || !within(n, 0, FAR)) {
            return BAD;
        }
        return now.jobsOf(person, now.turnedBehind(n), now.awayBehind(n));
    }

    public int whoDoes(int job, int n) {
        if (!now.isThere()) {
            return STATE;
        }
        if (!isJob(job) || !within(n, 0, FAR)) {
            return BAD;
        }
        return now.doersOf(job, now.turnedBehind(n), now.awayBehind(n));
    }

    public int often(int person, int job, int n) {
        if (!now.isThere()) {
            return STATE;
        }
        if (!isPerson(person) || !isJob(job) || !within(n, 0, FAR)) {
            return BAD;
        }
        return foreteller.timesIn(now, person, job, n);
    }

    public int meets(int person, int job) {
        if (!now.isThere()) {
            return STATE;
        }
        return isPerson(person) && isJob(job) ? foreteller.firstMeeting(now, person, job) : BAD;
    }

    public int allMet() {
        return now.isThere() ? foreteller.weeksUntilAllMet(now) : STATE;
    }

    public int round() {
        return now.isThere() ? foreteller.weeksUntilAnew(now) : STATE;
    }

    public int fairest(int n, int what) {
        if (!now.isThere()) {
            return STATE;
        }
        if (!within(n, 1, FAR) || !within(what, 0, 1)) {
            return BAD;
        }
        int by = foreteller.fairestTurn(now, n);
        return what == 0 ? foreteller.spreadTurnedBy(now, n, by) : by;
    }

    public int owed(int person) {
        if (!now.isThere()) {
            return STATE;
        }
        if (!isPerson(person)) {
            return BAD;
        }
        int most = 0;
        for (int other = 0; other < PEOPLE; other++) {
            most = Math.max(most, now.allTimesOf(other));
        }
        return most - now.allTimesOf(person);
    }

    public int right(int person, int job, int m, int what) {
        if (!now.isThere()) {
            return STATE;
        }
        if (!isPerson(person) || !isJob(job) || !within(m, 0, FAR) || !within(what, 0, 1)) {
            return BAD;
        }
        int swap = foreteller.swapFor(now, person, job, m);
        if (swap == NONE) {
            return NONE;
        }
        boolean needed = swap != Foreteller.NO_SWAP;
        if (what == 0) {
            return needed ? 1 : 0;
        }
        return needed ? swap : NONE;
    }

    public int twice() {
        return now.isThere() ? foreteller.nameToWrite(now) : STATE;
    }

    public int seen(int job, int row, int i, int n) {
        if (!now.isThere()) {
            return STATE;
        }
        if (!isJob(job) || !Rows.isRow(row) || !within(n, 1, SEEN_WEEKS)) {
            return BAD;
        }
        int wrong = rows.findingAt(row, i, n);
        return wrong != 0 ? finding(wrong) : unfound(foreteller.turnedSeen(now, job, rows, row, i, n));
    }

    public int who(int turner, int row, int i, int n) {
        if (now.turnerAt(turner) == null || !Rows.isRow(row) || !within(n, 1, SEEN_WEEKS)) {
            return BAD;
        }
        int wrong = rows.findingAt(row, i, n);
        return wrong != 0 ? finding(wrong) : unfound(foreteller.kindsSeen(now, turner, rows, row, i, n));
    }

    public int pairs(int n) {
        if (!now.isThere()) {
            return STATE;
        }
        return within(n, 1, FAR) ? foreteller.pairsIn(now, n) : BAD;
    }

    public long forgets(int person, int job, int n, int p, int what) {
        if (!now.isThere()) {
            return STATE;
        }
        if (!isPerson(person) || !isJob(job) || !within(n, 0, FORGOTTEN_WEEKS)) {
            return BAD;
        }
        if (!within(p, 0, 10) || !within(what, 0, 1)) {
            return BAD;
        }
        long cases = foreteller.casesOf(now, person, job, n, p);
        long all = 1;
        for (int i = 0; i < n; i++) {
            all *= 10;
        }
        // commonPart(0, all) is all, so that 0 is told as 0 by 1
        long common = commonPart(cases, all);
        if (common == 0) {
            return BAD;
        }
        return what == 0 ? cases / common : all / common;
    }

    public int drawn(int n, int seed, int what) {
        if (!now.isThere()) {
            return STATE;
        }
        if (!within(n, 0, FAR) || !within(seed, 1, LAST_SEED) || !within(what, 0, 1)) {
            return BAD;
        }
        return what == 0 ? foreteller.doneByDraws(now, n, seed) : now.turnedBehind(n);
    }

    public int image(int k) {
        if (!within(k, 0, IMAGES - 1)) {
            return BAD;
        }
        if (!now.isThere()) {
            return STATE;
        }
        keepIn(images, k);
        return 1;
    }

    public int restore(int k) {
        if (!within(k, 0, IMAGES - 1)) {
            return BAD;
        }
        Kitchen kept = images[k];
        if (kept == null) {
            return STATE;
        }
        now.become(kept);
        forgetActs();
        return 1;
    }

    // ---- asked

    public int kind(int one) {
        Turner asked = now.turnerAt(one);
        return asked == null ? BAD : asked.ownKind();
    }

    public int as(int one, int kind) {
        Turner taken = now.turnerAt(one);
        if (taken == null || !within(kind, 0, LAST_KIND)) {
            return BAD;
        }
        return Turner.isOfKind(taken, kind) ? unfound(taken.number) : finding(KIND);
    }

    public int ask(int one, int what) {
        Turner asked = now.turnerAt(one);
        if (asked == null || !within(what, 0, 1)) {
            return BAD;
        }
        bodies.length = 0;
        return what == 0 ? asked.size(bodies, now.turned, 0) : asked.mark(bodies, now.turned, 0);
    }

    public int trace(int i) {
        return bodies.numberAt(i);
    }

    public int count(int what) {
        switch (what) {
            case 0:
                return rows.present();
            case 1:
                return now.nameSlots;
            case 2:
                return now.jobSlots;
            case 3:
                return now.turnerCount;
            case 4:
                return now.week;
            case 5:
                return now.allTimes();
            case 6:
                return keptActs;
            case 7:
                return tape.length;
            default:
                return BAD;
        }
    }

    public int status() {
        return latestFinding;
    }

    // ---- what the calls share

    private int finding(int number) {
        latestFinding = number;
        return FOUND - number;
    }

    private int unfound(int answer) {
        latestFinding = 0;
        return answer;
    }

    /** What a SLOT of a wheel held before. */
    private int write(int[] wheel, int slots, int slot, int what) {
        if (!within(slot, 0, slots - 1) || slot >= wheel.length || !within(what, 0, EMPTY)) {
            return BAD;
        }
        keepAct();
        int before = wheel[slot];
        wheel[slot] = what;
        return before;
    }

    /** To be called ahead of an ACT: undo() brings back what stands now. */
    private void keepAct() {
        if (keptActs == ACTS) {
            oldestAct = rest(oldestAct + 1, ACTS);
            keptActs--;
        }
        keepIn(acts, rest(oldestAct + keptActs, ACTS));
        keptActs++;
    }

    private void forgetActs() {
        oldestAct = 0;
        keptActs = 0;
    }

    private void keepIn(Kitchen[] kept, int at) {
        if (at < 0 || at >= kept.length) {
            return;
        }
        Kitchen copy = kept[at];
        if (copy == null) {
            copy = new Kitchen();
            kept[at] = copy;
        }
        copy.become(now);
    }

    private static boolean within(int number, int least, int most) {
        return number >= least && number <= most;
    }

    private static boolean isPerson(int number) {
        return within(number, 0, PEOPLE - 1);
    }

    private static boolean isJob(int number) {
        return within(number, 0, JOBS - 1);
    }

    private static boolean holds(int bits, int bit) {
        return (bits >> bit & 1) != 0;
    }

    /** 0 or more, for numbers below 0 too. */
    private static int rest(int number, int by) {
        if (by <= 0) {
            return 0;
        }
        int left = number % by;
        return left < 0 ? left + by : left;
    }

    private static long commonPart(long a, long b) {
        long greater = b;
        long lesser = a;
        // Euclid's steps on numbers up to 10 to the 8th are fewer than 50
        for (int i = 0; i < 100 && lesser != 0; i++) {
            long left = greater % lesser;
            greater = lesser;
            lesser = left;
        }
        return greater;
    }

    /** ROWS of three LANES, all held as ints that were cut to their LANE. */
    private static final class Rows {
        private static final int MISSING = -1;

        private final int[][] items = new int[ROWS][ITEMS];
        private final int[] lanes = new int[ROWS];
        private final int[] sizes = new int[ROWS];

        Rows() {
            Arrays.fill(sizes, MISSING);
        }

        static boolean isRow(int row) {
            return within(row, 0, ROWS - 1);
        }

        boolean isMissing(int row) {
            return !isRow(row) || sizes[row] == MISSING;
        }

        int laneOf(int row) {
            return isRow(row) ? lanes[row] : MISSING;
        }

        /** 0, or the FINDING for n ITEMS from a place on. */
        int findingAt(int row, int from, int n) {
            if (isMissing(row)) {
                return NULL;
            }
            int end = Math.min(sizes[row], ITEMS);
            // compared by a difference: from + n could wrap around
            return from < 0 || n < 0 || from > end || n > end - from ? PLACE : 0;
        }

        void lay(int row, int lane, int n) {
            if (!isRow(row) || !within(n, 0, ITEMS)) {
                return;
            }
            Arrays.fill(items[row], 0);
            lanes[row] = lane;
            sizes[row] = n;
        }

        int itemAt(int row, int at) {
            return findingAt(row, at, 1) == 0 ? items[row][at] : 0;
        }

        int put(int row, int at, int value) {
            if (findingAt(row, at, 1) != 0) {
                return 0;
            }
            int kept = lanes[row] == 0 ? (byte) value : lanes[row] == 1 ? (short) value : value;
            items[row][at] = kept;
            return kept;
        }

        void move(int a, int i, int b, int j, int n) {
            if (findingAt(a, i, n) == 0 && findingAt(b, j, n) == 0) {
                System.arraycopy(items[a], i, items[b], j, n);
            }
        }

        int lose(int row) {
            if (isMissing(row)) {
                return 0;
            }
            int had = sizes[row];
            sizes[row] = MISSING;
            return had;
        }

        int present() {
            int present = 0;
            for (int row = 0; row < ROWS; row++) {
                if (!isMissing(row)) {
                    present++;
                }
            }
            return present;
        }
    }

    /** The bytes that were fed, and how a KITCHEN is read from them. */
    private static final class Tape {
        private static final int MISPLACED = 1, WRONG_NUMBER = 2, NO_ROOM = 3;
        private static final int MOST_FIGURES = 2, MOST_BY = 9, END = -1;

        private final int[] bytes = new int[BYTES];
        int length;

        /** Holds what was read, whole only behind a read() that found no FAULT. */
        final Kitchen draft = new Kitchen();
        int faultNumber;

        /** The first byte of the TOKEN that is looked at; the FAULT's place behind a FAULT. */
        int place;

        boolean take(int letter) {
            if (length < 0 || length >= BYTES) {
                return false;
            }
            bytes[length] = letter;
            length++;
            return true;
        }

        boolean read() {
            place = 0;
            faultNumber = 0;
            draft.turnerCount = 0;
            draft.nameSlots = readWheel('n', draft.names);
            draft.jobSlots = faultNumber == 0 ? readWheel('j', draft.jobs) : 0;
            // one more than there is room for, so that its letter is found
            for (int i = 0; i <= TURNERS && faultNumber == 0 && (i == 0 || place < length); i++) {
                readTurner(i);
            }
            return faultNumber == 0;
        }

        /** How many SLOTS were read; 0 behind a FAULT. */
        private int readWheel(int opening, int[] wheel) {
            int slots = 0;
            if (passes(opening)) {
                while (slots < SLOTS && slots < wheel.length && nameOf(byteAt(place)) != NONE) {
                    wheel[slots] = nameOf(byteAt(place));
                    slots++;
                    place++;
                }
                if (slots == 0) {
                    faultNumber = MISPLACED;
                } else {
                    passes(';');
                }
            }
            return faultNumber == 0 ? slots : 0;
        }

        private void readTurner(int number) {
            int kind = kindOf(byteAt(place));
            if (kind == 0) {
                faultNumber = MISPLACED;
                return;
            }
            if (number < 0 || number >= TURNERS) {
                faultNumber = NO_ROOM;
                return;
            }
            place++;
            int by = readBy();
            if (faultNumber == 0 && passes(';')) {
                draft.turners[number] = Turner.made(kind, number, by);
                draft.turnerCount = number + 1;
            }
        }

        private int readBy() {
            int figures = 0;
            int number = 0;
            // one figure too many is enough to know that the run is no NUMBER
            while (figures <= MOST_FIGURES && within(byteAt(place + figures), '0', '9')) {
                number = number * 10 + byteAt(place + figures) - '0';
                figures++;
            }
            if (figures == 0 || figures > MOST_FIGURES) {
                faultNumber = MISPLACED;
            } else if (number > MOST_BY) {
                faultNumber = WRONG_NUMBER;
            } else {
                place += figures;
            }
            return number;
        }

        /** Goes on behind a TOKEN of one byte, if it stands here; else that is the FAULT. */
        private boolean passes(int token) {
            if (byteAt(place) != token) {
                faultNumber = MISPLACED;
                return false;
            }
            place++;
            return true;
        }

        private int byteAt(int at) {
            return at >= 0 && at < length && at < BYTES ? bytes[at] : END;
        }

        /** What a letter in a SLOT is: 0 to 5, EMPTY; NONE: it cannot stand there. */
        private static int nameOf(int letter) {
            if (letter == 'z') {
                return EMPTY;
            }
            return within(letter, 'a', 'f') ? letter - 'a' : NONE;
        }

        private static int kindOf(int letter) {
            switch (letter) {
                case 'o':
                    return 1;
                case 's':
                    return 2;
                case 'b':
                    return 3;
                case 'l':
                    return 4;
                case 'r':
                    return 5;
                default:
                    return 0;
            }
        }
    }

    /** All that an ACT may change, an IMAGE keeps and a new text replaces. */
    private static final class Kitchen {
        final int[] names = new int[SLOTS];
        final int[] jobs = new int[SLOTS];
        final Turner[] turners = new Turner[TURNERS];
        final int[] times = new int[PEOPLE * JOBS];
        int nameSlots;
        int jobSlots;
        int turnerCount;
        int week;
        int turned;
        int away;

        boolean isThere() {
            return nameSlots > 0;
        }

        void become(Kitchen other) {
            System.arraycopy(other.names, 0, names, 0, SLOTS);
            System.arraycopy(other.jobs, 0, jobs, 0, SLOTS);
            System.arraycopy(other.times, 0, times, 0, PEOPLE * JOBS);
            for (int i = 0; i < TURNERS; i++) {
                turners[i] = other.turners[i];
            }
            nameSlots = other.nameSlots;
            jobSlots = other.jobSlots;
            turnerCount = other.turnerCount;
            week = other.week;
            turned = other.turned;
            away = other.away;
        }

        /** Null: there is no such one. */
        Turner turnerAt(int number) {
            return number >= 0 && number < turnerCount && number < TURNERS ? turners[number] : null;
        }

        private int nameIn(int slot) {
            return slot >= 0 && slot < nameSlots && slot < SLOTS ? names[slot] : EMPTY;
        }

        private int jobIn(int slot) {
            return slot >= 0 && slot < jobSlots && slot < SLOTS ? jobs[slot] : EMPTY;
        }

        /** NONE: no SLOT is empty. */
        int firstEmptySlot() {
            for (int slot = 0; slot < nameSlots && slot < SLOTS; slot++) {
                if (names[slot] == EMPTY) {
                    return slot;
                }
            }
            return NONE;
        }

        /** The job that the name in a SLOT has, were it turned so; EMPTY: none. */
        int jobHad(int slot, int turnedSo) {
            return nameIn(slot) == EMPTY ? EMPTY : jobIn(rest(slot + turnedSo, jobSlots));
        }

        /** Who does the job that the name in a SLOT has; EMPTY: none. */
        int doerIn(int slot, int turnedSo, int gone) {
            if (jobHad(slot, turnedSo) == EMPTY) {
                return EMPTY;
            }
            for (int behind = 0; behind < nameSlots; behind++) {
                int name = nameIn(rest(slot + behind, nameSlots));
                if (name != EMPTY && !holds(gone, name)) {
                    return name;
                }
            }
            return EMPTY;
        }

        int jobsOf(int person, int turnedSo, int gone) {
            int bits = 0;
            for (int slot = 0; slot < nameSlots; slot++) {
                if (doerIn(slot, turnedSo, gone) == person) {
                    bits |= 1 << jobHad(slot, turnedSo);
                }
            }
            return bits;
        }

        int doersOf(int job, int turnedSo, int gone) {
            int bits = 0;
            for (int slot = 0; slot < nameSlots; slot++) {
                int doer = jobHad(slot, turnedSo) == job ? doerIn(slot, turnedSo, gone) : EMPTY;
                if (doer != EMPTY) {
                    bits |= 1 << doer;
                }
            }
            return bits;
        }

        void passWeek() {
            for (int slot = 0; slot < nameSlots; slot++) {
                int doer = doerIn(slot, turned, away);
                int job = jobHad(slot, turned);
                if (isPerson(doer) && isJob(job)) {
                    times[doer * JOBS + job]++;
                }
            }
            turned = turnedNext(turned, week);
            away = 0;
            week++;
        }

        /** TURNED behind a WEEK that began with it so. */
        int turnedNext(int turnedSo, int inWeek) {
            Turner turner = turnerAt(rest(inWeek, turnerCount));
            return turner == null ? turnedSo : rest(turnedSo + turner.howFar(inWeek), jobSlots);
        }

        int turnedBehind(int weeks) {
            int turnedSo = turned;
            for (int i = 0; i < weeks; i++) {
                turnedSo = turnedNext(turnedSo, week + i);
            }
            return turnedSo;
        }

        /** Of WEEKS to come nothing is known: only this one has anybody away. */
        int awayBehind(int weeks) {
            return weeks == 0 ? away : 0;
        }

        int peopleOnIt() {
            return bitsOf(names, nameSlots);
        }

        int jobsOnIt() {
            return bitsOf(jobs, jobSlots);
        }

        private static int bitsOf(int[] wheel, int slots) {
            int bits = 0;
            for (int slot = 0; slot < slots && slot < wheel.length; slot++) {
                if (wheel[slot] != EMPTY) {
                    bits |= 1 << wheel[slot];
                }
            }
            return bits;
        }

        int allTimesOf(int person) {
            int sum = 0;
            for (int job = 0; job < JOBS && isPerson(person); job++) {
                sum += times[person * JOBS + job];
            }
            return sum;
        }

        int allTimes() {
            int sum = 0;
            for (int person = 0; person < PEOPLE; person++) {
                sum += allTimesOf(person);
            }
            return sum;
        }
    }

    /** What is FORETOLD of a KITCHEN; what is tried out is tried on a copy. */
    private static final class Foreteller {
        /** Less than any two SLOTS tell: the least is 1, of SLOTS 0 and 1. */
        static final int NO_SWAP = 0;
        private static final int MOST_TURN = 8, LONGEST_ROUND = 100, ROUND_OF = 6, TWICE_WEEKS = 12;

        private final Kitchen trial = new Kitchen();
        private final int[] ofPeople = new int[PEOPLE];
        private final long[] cases = new long[SLOTS];
        private final long[] nextCases = new long[SLOTS];

        int timesIn(Kitchen kitchen, int person, int job, int weeks) {
            int times = 0;
            int turned = kitchen.turned;
            for (int i = 0; i < weeks; i++) {
                for (int slot = 0; slot < kitchen.nameSlots; slot++) {
                    boolean had = kitchen.jobHad(slot, turned) == job;
                    if (had && kitchen.doerIn(slot, turned, kitchen.awayBehind(i)) == person) {
                        times++;
                    }
                }
                turned = kitchen.turnedNext(turned, kitchen.week + i);
            }
            return times;
        }

        int firstMeeting(Kitchen kitchen, int person, int job) {
            int turned = kitchen.turned;
            for (int i = 0; i <= FAR; i++) {
                if (holds(kitchen.doersOf(job, turned, kitchen.awayBehind(i)), person)) {
                    return i;
                }
                turned = kitchen.turnedNext(turned, kitchen.week + i);
            }
            return NONE;
        }

        int weeksUntilAllMet(Kitchen kitchen) {
            int people = kitchen.peopleOnIt();
            int jobs = kitchen.jobsOnIt();
            if (people == 0 || jobs == 0) {
                return NONE;
            }
            Arrays.fill(ofPeople, 0);
            int turned = kitchen.turned;
            for (int i = 0; i < FAR; i++) {
                boolean all = true;
                for (int person = 0; person < PEOPLE; person++) {
                    ofPeople[person] |= kitchen.jobsOf(person, turned, kitchen.awayBehind(i));
                    all = all && (!holds(people, person) || ofPeople[person] == jobs);
                }
                if (all) {
                    return i + 1;
                }
                turned = kitchen.turnedNext(turned, kitchen.week + i);
            }
            return NONE;
        }

        int weeksUntilAnew(Kitchen kitchen) {
            int turned = kitchen.turned;
            for (int weeks = 1; weeks <= LONGEST_ROUND; weeks++) {
                turned = kitchen.turnedNext(turned, kitchen.week + weeks - 1);
                boolean even = rest(weeks, kitchen.turnerCount) == 0 && rest(weeks, ROUND_OF) == 0;
                if (even && turned == kitchen.turned) {
                    return weeks;
                }
            }
            return NONE;
        }

        int fairestTurn(Kitchen kitchen, int weeks) {
            int best = 1;
            int least = spreadTurnedBy(kitchen, weeks, best);
            for (int by = 2; by <= MOST_TURN; by++) {
                int spread = spreadTurnedBy(kitchen, weeks, by);
                if (spread < least) {
                    least = spread;
                    best = by;
                }
            }
            return best;
        }

        int spreadTurnedBy(Kitchen kitchen, int weeks, int by) {
            Arrays.fill(ofPeople, 0);
            for (int i = 0; i < weeks; i++) {
                countWeek(kitchen, kitchen.turned + i * by, 0);
            }
            return spreadOver(kitchen.peopleOnIt());
        }

        private int spreadAsTurned(Kitchen kitchen, int weeks) {
            Arrays.fill(ofPeople, 0);
            int turned = kitchen.turned;
            for (int i = 0; i < weeks; i++) {
                countWeek(kitchen, turned, kitchen.awayBehind(i));
                turned = kitchen.turnedNext(turned, kitchen.week + i);
            }
            return spreadOver(kitchen.peopleOnIt());
        }

        private void countWeek(Kitchen kitchen, int turned, int gone) {
            for (int slot = 0; slot < kitchen.nameSlots; slot++) {
                int doer = kitchen.doerIn(slot, turned, gone);
                if (isPerson(doer)) {
                    ofPeople[doer]++;
                }
            }
        }

        private int spreadOver(int people) {
            int most = 0;
            int least = MANY;
            for (int person = 0; person < PEOPLE; person++) {
                if (holds(people, person)) {
                    most = Math.max(most, ofPeople[person]);
                    least = Math.min(least, ofPeople[person]);
                }
            }
            return people == 0 ? 0 : most - least;
        }

        /** 10 times a SLOT and a greater one; NO_SWAP: none need; NONE: no two will do. */
        int swapFor(Kitchen kitchen, int person, int job, int weeks) {
            int turned = kitchen.turnedBehind(weeks);
            int gone = kitchen.awayBehind(weeks);
            if (holds(kitchen.doersOf(job, turned, gone), person)) {
                return NO_SWAP;
            }
            trial.become(kitchen);
            for (int lesser = 0; lesser < trial.nameSlots; lesser++) {
                for (int greater = lesser + 1; greater < trial.nameSlots; greater++) {
                    swapNames(lesser, greater);
                    boolean does = holds(trial.doersOf(job, turned, gone), person);
                    swapNames(lesser, greater);
                    if (does) {
                        return 10 * lesser + greater;
                    }
                }
            }
            return NONE;
        }

        private void swapNames(int one, int other) {
            if (within(one, 0, SLOTS - 1) && within(other, 0, SLOTS - 1)) {
                int name = trial.names[one];
                trial.names[one] = trial.names[other];
                trial.names[other] = name;
            }
        }

        int nameToWrite(Kitchen kitchen) {
            int empty = kitchen.firstEmptySlot();
            if (!within(empty, 0, SLOTS - 1)) {
                return NONE;
            }
            trial.become(kitchen);
            int best = NONE;
            int least = MANY;
            for (int person = 0; person < PEOPLE; person++) {
                trial.names[empty] = person;
                int spread = spreadAsTurned(trial, TWICE_WEEKS);
                if (spread < least) {
                    least = spread;
                    best = person;
                }
            }
            return best;
        }

        int turnedSeen(Kitchen kitchen, int job, Rows rows, int row, int from, int weeks) {
            int bits = 0;
            for (int start = 0; start < kitchen.jobSlots; start++) {
                int turned = start;
                boolean fits = true;
                for (int i = 0; i < weeks && fits; i++) {
                    int doers = kitchen.doersOf(job, turned, kitchen.awayBehind(i));
                    fits = leastOf(doers) == rows.itemAt(row, from + i);
                    turned = kitchen.turnedNext(turned, kitchen.week + i);
                }
                if (fits) {
                    bits |= 1 << start;
                }
            }
            return bits;
        }

        /** -1: nobody. */
        private static int leastOf(int people) {
            for (int person = 0; person < PEOPLE; person++) {
                if (holds(people, person)) {
                    return person;
                }
            }
            return -1;
        }

        int kindsSeen(Kitchen kitchen, int number, Rows rows, int row, int from, int weeks) {
            Turner asTold = kitchen.turnerAt(number);
            if (asTold == null || !within(number, 0, TURNERS - 1)) {
                return 0;
            }
            trial.become(kitchen);
            int bits = 0;
            for (int kind = 1; kind <= LAST_KIND; kind++) {
                trial.turners[number] = Turner.made(kind, number, asTold.by);
                int turned = trial.turned;
                boolean fits = true;
                for (int i = 0; i < weeks && fits; i++) {
                    turned = trial.turnedNext(turned, trial.week + i);
                    fits = turned == rows.itemAt(row, from + i);
                }
                if (fits) {
                    bits |= 1 << kind;
                }
            }
            return bits;
        }

        int pairsIn(Kitchen kitchen, int weeks) {
            Arrays.fill(ofPeople, 0);
            int turned = kitchen.turned;
            for (int i = 0; i < weeks; i++) {
                for (int job = 0; job < JOBS; job++) {
                    int doers = kitchen.doersOf(job, turned, kitchen.awayBehind(i));
                    for (int person = 0; person < PEOPLE; person++) {
                        ofPeople[person] |= holds(doers, person) ? doers : 0;
                    }
                }
                turned = kitchen.turnedNext(turned, kitchen.week + i);
            }
            int pairs = 0;
            for (int person = 0; person < PEOPLE; person++) {
                // only those above: each pair once, nobody with himself
                pairs += Integer.bitCount(ofPeople[person] >> person + 1);
            }
            return pairs;
        }

        /** Of 10 to the power of the WEEKS: in how many cases one does a job behind them. */
        long casesOf(Kitchen kitchen, int person, int job, int weeks, int forgotten) {
            Arrays.fill(cases, 0);
            if (within(kitchen.turned, 0, SLOTS - 1)) {
                cases[kitchen.turned] = 1;
            }
            for (int i = 0; i < weeks; i++) {
                passForgetful(kitchen, kitchen.week + i, forgotten);
            }
            long sum = 0;
            for (int turned = 0; turned < kitchen.jobSlots && turned < SLOTS; turned++) {
                if (holds(kitchen.doersOf(job, turned, kitchen.awayBehind(weeks)), person)) {
                    sum += cases[turned];
                }
            }
            return sum;
        }

        private void passForgetful(Kitchen kitchen, int week, int forgotten) {
            Arrays.fill(nextCases, 0);
            for (int turned = 0; turned < kitchen.jobSlots && turned < SLOTS; turned++) {
                int next = kitchen.turnedNext(turned, week);
                nextCases[turned] += cases[turned] * forgotten;
                if (within(next, 0, SLOTS - 1)) {
                    nextCases[next] += cases[turned] * (10 - forgotten);
                }
            }
            System.arraycopy(nextCases, 0, cases, 0, SLOTS);
        }

        int doneByDraws(Kitchen kitchen, int weeks, int seed) {
            Arrays.fill(ofPeople, 0);
            long drawn = seed;
            int turned = kitchen.turned;
            for (int i = 0; i < weeks; i++) {
                drawn = drawn * 16807 % 2147483647;
                countWeek(kitchen, turned, kitchen.awayBehind(i) | 1 << (int) (drawn % PEOPLE));
                turned = kitchen.turnedNext(turned, kitchen.week + i);
            }
            int sum = 0;
            for (int person = 0; person < PEOPLE; person++) {
                sum += ofPeople[person];
            }
            return sum;
        }
    }

    /** The numbers that BODIES leave as they begin. */
    private static final class Trace {
        private static final int MOST = 16;

        private final int[] numbers = new int[MOST];
        int length;

        void add(int body) {
            if (length >= 0 && length < MOST) {
                numbers[length] = body;
                length++;
            }
        }

        int numberAt(int i) {
            return i >= 0 && i < length && i < MOST ? numbers[i] : NONE;
        }
    }

    /** KIND 0; its two asks begin the BODIES that are lent to all. */
    private abstract static class Turner {
        /** Two asks within one another are the most that the BODIES come to. */
        static final int DEEPEST = 8;

        final int number;
        final int by;

        Turner(int number, int by) {
            this.number = number;
            this.by = by;
        }

        static Turner made(int kind, int number, int by) {
            switch (kind) {
                case 1:
                    return new One(number, by);
                case 2:
                    return new Step(number, by);
                case 3:
                    return new Both(number, by);
                case 4:
                    return new Law(number, by);
                default:
                    return new Righter(number, by);
            }
        }

        static boolean isOfKind(Turner turner, int kind) {
            switch (kind) {
                case 0:
                    return turner != null;
                case 1:
                    return turner instanceof One;
                case 2:
                    return turner instanceof Step;
                case 3:
                    return turner instanceof Both;
                case 4:
                    return turner instanceof Law;
                default:
                    return turner instanceof Righter;
            }
        }

        abstract int ownKind();

        /** Below 0: back. */
        abstract int howFar(int week);

        int size(Trace trace, int turned, int depth) {
            trace.add(10);
            return by;
        }

        int mark(Trace trace, int turned, int depth) {
            trace.add(20);
            return number;
        }
    }

    private static class One extends Turner {
        One(int number, int by) {
            super(number, by);
        }

        int ownKind() {
            return 1;
        }

        int howFar(int week) {
            return 1;
        }

        int size(Trace trace, int turned, int depth) {
            trace.add(11);
            int lent = super.size(trace, turned, depth);
            return depth < DEEPEST ? lent + mark(trace, turned, depth + 1) : lent;
        }

        int mark(Trace trace, int turned, int depth) {
            trace.add(21);
            return super.mark(trace, turned, depth) + turned;
        }
    }

    private static final class Step extends One {
        Step(int number, int by) {
            super(number, by);
        }

        int ownKind() {
            return 2;
        }

        int howFar(int week) {
            return by;
        }

        int size(Trace trace, int turned, int depth) {
            trace.add(12);
            return -super.size(trace, turned, depth);
        }

        int mark(Trace trace, int turned, int depth) {
            trace.add(24);
            return 2 * super.mark(trace, turned, depth);
        }
    }

    private static final class Both extends One {
        Both(int number, int by) {
            super(number, by);
        }

        int ownKind() {
            return 3;
        }

        int howFar(int week) {
            return rest(week, 2) == 0 ? by + 1 : by;
        }

        int mark(Trace trace, int turned, int depth) {
            trace.add(22);
            return super.mark(trace, turned, depth) - 1000;
        }
    }

    private static class Law extends Turner {
        Law(int number, int by) {
            super(number, by);
        }

        int ownKind() {
            return 4;
        }

        int howFar(int week) {
            return week + by;
        }

        int size(Trace trace, int turned, int depth) {
            trace.add(13);
            return super.size(trace, turned, depth) - 100;
        }

        int mark(Trace trace, int turned, int depth) {
            trace.add(23);
            int lent = super.mark(trace, turned, depth);
            return depth < DEEPEST ? lent - size(trace, turned, depth + 1) : lent;
        }
    }

    private static final class Righter extends Law {
        Righter(int number, int by) {
            super(number, by);
        }

        int ownKind() {
            return 5;
        }

        int howFar(int week) {
            return rest(week, 3) == 0 ? -super.howFar(week) : super.howFar(week);
        }

        int size(Trace trace, int turned, int depth) {
            trace.add(14);
            return 2 * super.size(trace, turned, depth);
        }
    }
}
