import java.util.ArrayDeque;
import java.util.ArrayList;
import java.util.Arrays;
import java.util.Deque;
import java.util.HashMap;
import java.util.HashSet;
import java.util.List;
import java.util.Map;
import java.util.Set;
import java.util.TreeSet;

/** The document a second time, slowly and with the whole Java library: what KitchenWheels is held against. */
final class Model {
    private static final int NONE = -1000000, BAD = -1000001, STATE = -1000002, FULL = -1000003;

    /** A turner: the letter that tells its sort, and BY. */
    record Told(char sort, int by) {
        int far(int week) {
            return switch (sort) {
                case 'o' -> 1;
                case 's' -> by;
                case 'b' -> week % 2 == 0 ? by + 1 : by;
                case 'l' -> week + by;
                default -> week % 3 == 0 ? -(week + by) : week + by;
            };
        }

        int kind() {
            return "osblr".indexOf(sort) + 1;
        }
    }

    /** Who does which job, once. */
    record Deed(int person, int job) {
    }

    /** A kitchen as it stands; never changed, only followed by another. -1 is an empty slot, or nobody's job. */
    record Stand(List<Integer> names, List<Integer> jobs, List<Told> turners, int week, int turned,
            Set<Integer> away, Map<Deed, Integer> done) {

        List<Deed> deeds() {
            List<Deed> deeds = new ArrayList<>();
            for (int k = 0; k < names.size(); k++) {
                int job = jobs.get((k + turned) % jobs.size());
                if (names.get(k) == -1 || job == -1) {
                    continue;
                }
                List<Integer> line = new ArrayList<>(names.subList(k, names.size()));
                line.addAll(names.subList(0, k));
                line.removeIf(name -> name == -1 || away.contains(name));
                if (!line.isEmpty()) {
                    deeds.add(new Deed(line.get(0), job));
                }
            }
            return deeds;
        }

        Stand turnedTo(int to) {
            int size = jobs.size();
            return new Stand(names, jobs, turners, week, (to % size + size) % size, away, done);
        }

        Stand named(List<Integer> others) {
            return new Stand(others, jobs, turners, week, turned, away, done);
        }

        Stand withAway(Set<Integer> gone) {
            return new Stand(names, jobs, turners, week, turned, gone, done);
        }

        Stand withTurners(List<Told> others) {
            return new Stand(names, jobs, others, week, turned, away, done);
        }

        Stand withJobs(List<Integer> others) {
            return new Stand(names, others, turners, week, turned, away, done);
        }

        Stand nextTurnedBy(int far) {
            Map<Deed, Integer> counted = new HashMap<>(done);
            for (Deed deed : deeds()) {
                counted.merge(deed, 1, Integer::sum);
            }
            return new Stand(names, jobs, turners, week + 1, turned, Set.of(), counted).turnedTo(turned + far);
        }

        Stand next() {
            return nextTurnedBy(turners.get(week % turners.size()).far(week));
        }

        /** This week and those behind it, so many. */
        List<Stand> ahead(int weeks) {
            List<Stand> stands = new ArrayList<>();
            Stand stand = this;
            for (int i = 0; i < weeks; i++) {
                stands.add(stand);
                stand = stand.next();
            }
            return stands;
        }

        Stand behind(int weeks) {
            return ahead(weeks + 1).get(weeks);
        }

        boolean does(int person, int job) {
            return deeds().contains(new Deed(person, job));
        }

        Set<Integer> people() {
            Set<Integer> people = new TreeSet<>(names);
            people.remove(-1);
            return people;
        }

        int spread(List<Stand> weeks) {
            List<Integer> sums = new ArrayList<>();
            for (int person : people()) {
                int sum = 0;
                for (Stand week : weeks) {
                    sum += (int) week.deeds().stream().filter(deed -> deed.person == person).count();
                }
                sums.add(sum);
            }
            int most = sums.stream().mapToInt(i -> i).max().orElse(0);
            return most - sums.stream().mapToInt(i -> i).min().orElse(0);
        }

        int doneBy(int person) {
            return done.entrySet().stream().filter(e -> e.getKey().person == person)
                .mapToInt(Map.Entry::getValue).sum();
        }
    }

    private final Object[] rows = new Object[8];
    private final StringBuilder tape = new StringBuilder();
    private final Deque<Stand> acts = new ArrayDeque<>();
    private final Stand[] images = new Stand[2];
    private final List<Integer> trace = new ArrayList<>();
    private Stand now;
    private int fault;
    private int status;

    private static boolean out(int v, int least, int most) {
        return v < least || v > most;
    }

    private int found(int number) {
        status = number;
        return -1000010 - number;
    }

    private int ok(int answer) {
        status = 0;
        return answer;
    }

    private static int length(Object row) {
        return row instanceof byte[] b ? b.length : row instanceof short[] s ? s.length : ((int[]) row).length;
    }

    private static int item(Object row, int i) {
        return row instanceof byte[] b ? b[i] : row instanceof short[] s ? s[i] : ((int[]) row)[i];
    }

    int row(int row, int lane, int n) {
        if (out(row, 0, 7) || out(lane, 0, 2) || n > 40) {
            return BAD;
        }
        if (n < 0) {
            return found(4);
        }
        rows[row] = lane == 0 ? new byte[n] : lane == 1 ? new short[n] : new int[n];
        return ok(n);
    }

    int set(int row, int i, int v) {
        if (out(row, 0, 7)) {
            return BAD;
        }
        if (rows[row] == null) {
            return found(1);
        }
        if (out(i, 0, length(rows[row]) - 1)) {
            return found(2);
        }
        if (rows[row] instanceof byte[] b) {
            b[i] = (byte) v;
        } else if (rows[row] instanceof short[] s) {
            s[i] = (short) v;
        } else {
            ((int[]) rows[row])[i] = v;
        }
        return ok(item(rows[row], i));
    }

    int copy(int a, int i, int b, int j, int n) {
        if (out(a, 0, 7) || out(b, 0, 7)) {
            return BAD;
        }
        if (rows[a] == null || rows[b] == null) {
            return found(1);
        }
        try {
            System.arraycopy(rows[a], i, rows[b], j, n);
        } catch (ArrayStoreException e) {
            return found(5);
        } catch (IndexOutOfBoundsException e) {
            return found(2);
        }
        return ok(n);
    }

    int drop(int row) {
        if (out(row, 0, 7)) {
            return BAD;
        }
        if (rows[row] == null) {
            return found(1);
        }
        int had = length(rows[row]);
        rows[row] = null;
        return ok(had);
    }

    int feed(int letter) {
        if (out(letter, 0, 255)) {
            return BAD;
        }
        if (tape.length() == 80) {
            return FULL;
        }
        tape.append((char) letter);
        return tape.length();
    }

    int kitchen() {
        String text = tape.toString();
        tape.setLength(0);
        List<Integer> names = new ArrayList<>();
        List<Integer> jobs = new ArrayList<>();
        List<Told> turners = new ArrayList<>();
        int[] wrong = Reading.of(text, names, jobs, turners);
        if (wrong != null) {
            fault = wrong[1];
            return -1000100 - wrong[0];
        }
        now = new Stand(names, jobs, turners, 0, 0, Set.of(), Map.of());
        acts.clear();
        return turners.size();
    }

    /** The text's tokens taken one by one by an automaton. */
    private static final class Reading {
        /** Null, or the place and the number of the fault. */
        static int[] of(String text, List<Integer> names, List<Integer> jobs, List<Told> turners) {
            String state = "n";
            char sort = 0;
            int by = 0;
            int at = 0;
            while (at < text.length()) {
                char c = text.charAt(at);
                int width = 1;
                if (Character.isDigit(c)) {
                    while (at + width < text.length() && Character.isDigit(text.charAt(at + width))) {
                        width++;
                    }
                }
                String token = text.substring(at, at + width);
                if (!token.matches("[a-z]|[0-9]{1,2}|[,;]")) {
                    return new int[] {at, 1};
                }
                boolean number = Character.isDigit(c);
                List<Integer> wheel = state.equals("names") ? names : jobs;
                if (state.equals("n") && c == 'n') {
                    state = "names";
                } else if ((state.equals("names") || state.equals("jobs")) && token.matches("[a-fz]") && wheel.size() < 8) {
                    wheel.add(c == 'z' ? -1 : c - 'a');
                } else if (state.equals("names") && c == ';' && !names.isEmpty()) {
                    state = "j";
                } else if (state.equals("j") && c == 'j') {
                    state = "jobs";
                } else if (state.equals("jobs") && c == ';' && !jobs.isEmpty()) {
                    state = "sort";
                } else if ((state.equals("sort") || state.equals("again")) && token.matches("[osblr]")) {
                    if (turners.size() == 4) {
                        return new int[] {at, 3};
                    }
                    sort = c;
                    state = "by";
                } else if (state.equals("by") && number) {
                    by = Integer.parseInt(token);
                    if (by > 9) {
                        return new int[] {at, 2};
                    }
                    state = "end";
                } else if (state.equals("end") && c == ';') {
                    turners.add(new Told(sort, by));
                    state = "again";
                } else {
                    return new int[] {at, 1};
                }
                at += width;
            }
            return state.equals("again") ? null : new int[] {text.length(), 1};
        }
    }

    int fault() {
        return fault;
    }

    int undo() {
        if (acts.isEmpty()) {
            return STATE;
        }
        now = acts.pop();
        return acts.size();
    }

    private void act(Stand then) {
        acts.push(now);
        if (acts.size() > 24) {
            acts.removeLast();
        }
        now = then;
    }

    int weeks(int n) {
        if (now == null) {
            return STATE;
        }
        if (out(n, 1, 24)) {
            return BAD;
        }
        if (now.week + n > 999) {
            return FULL;
        }
        for (int i = 0; i < n; i++) {
            act(now.next());
        }
        return now.turned;
    }

    int leave(int person) {
        if (now == null) {
            return STATE;
        }
        if (out(person, 0, 5)) {
            return BAD;
        }
        if (now.away.contains(person)) {
            return STATE;
        }
        Set<Integer> gone = new HashSet<>(now.away);
        gone.add(person);
        act(now.withAway(gone));
        return bits(gone);
    }

    private static int bits(Set<Integer> set) {
        return set.stream().mapToInt(i -> 1 << i).sum();
    }

    private static List<Integer> put(List<Integer> wheel, int at, int what) {
        List<Integer> other = new ArrayList<>(wheel);
        other.set(at, what == 6 ? -1 : what);
        return other;
    }

    private static int told(int what) {
        return what == -1 ? 6 : what;
    }

    int name(int slot, int person) {
        if (now == null) {
            return STATE;
        }
        if (out(slot, 0, now.names.size() - 1) || out(person, 0, 6)) {
            return BAD;
        }
        int was = told(now.names.get(slot));
        act(now.named(put(now.names, slot, person)));
        return was;
    }

    int job(int slot, int what) {
        if (now == null) {
            return STATE;
        }
        if (out(slot, 0, now.jobs.size() - 1) || out(what, 0, 6)) {
            return BAD;
        }
        int was = told(now.jobs.get(slot));
        act(now.withJobs(put(now.jobs, slot, what)));
        return was;
    }

    int turn(int n) {
        if (now == null) {
            return STATE;
        }
        if (out(n, 1, 8)) {
            return BAD;
        }
        act(now.turnedTo(now.turned + n));
        return now.turned;
    }

    int done(int person, int job) {
        if (now == null) {
            return STATE;
        }
        if (out(person, 0, 5) || out(job, 0, 5)) {
            return BAD;
        }
        return now.done.getOrDefault(new Deed(person, job), 0);
    }

    int slot(int slot, int what) {
        if (now == null) {
            return STATE;
        }
        if (out(slot, 0, 7) || out(what, 0, 2)) {
            return BAD;
        }
        List<Integer> wheel = what == 1 ? now.jobs : now.names;
        if (slot >= wheel.size()) {
            return NONE;
        }
        if (what < 2) {
            return told(wheel.get(slot));
        }
        return now.names.get(slot) == -1 ? 6 : told(now.jobs.get((slot + now.turned) % now.jobs.size()));
    }

    private Told at(int turner) {
        return now == null || out(turner, 0, now.turners.size() - 1) ? null : now.turners.get(turner);
    }

    int turner(int turner, int what) {
        Told told = at(turner);
        if (told == null || out(what, 0, 1)) {
            return BAD;
        }
        return what == 0 ? told.by : 1000 + told.far(now.week);
    }

    int hasJobs(int person, int n) {
        if (now == null) {
            return STATE;
        }
        if (out(person, 0, 5) || out(n, 0, 60)) {
            return BAD;
        }
        Set<Integer> jobs = new HashSet<>();
        now.behind(n).deeds().stream().filter(d -> d.person == person).forEach(d -> jobs.add(d.job));
        return bits(jobs);
    }

    int whoDoes(int job, int n) {
        if (now == null) {
            return STATE;
        }
        if (out(job, 0, 5) || out(n, 0, 60)) {
            return BAD;
        }
        return bits(doers(now.behind(n), job));
    }

    private static Set<Integer> doers(Stand stand, int job) {
        Set<Integer> people = new TreeSet<>();
        stand.deeds().stream().filter(d -> d.job == job).forEach(d -> people.add(d.person));
        return people;
    }

    int often(int person, int job, int n) {
        if (now == null) {
            return STATE;
        }
        if (out(person, 0, 5) || out(job, 0, 5) || out(n, 0, 60)) {
            return BAD;
        }
        Deed deed = new Deed(person, job);
        return now.behind(n).done.getOrDefault(deed, 0) - now.done.getOrDefault(deed, 0);
    }

    int meets(int person, int job) {
        if (now == null) {
            return STATE;
        }
        if (out(person, 0, 5) || out(job, 0, 5)) {
            return BAD;
        }
        List<Stand> ahead = now.ahead(61);
        for (int i = 0; i < ahead.size(); i++) {
            if (ahead.get(i).does(person, job)) {
                return i;
            }
        }
        return NONE;
    }

    int allMet() {
        if (now == null) {
            return STATE;
        }
        Set<Deed> missing = new HashSet<>();
        for (int person : now.people()) {
            for (int job : now.jobs) {
                if (job != -1) {
                    missing.add(new Deed(person, job));
                }
            }
        }
        if (missing.isEmpty()) {
            return NONE;
        }
        List<Stand> ahead = now.ahead(60);
        for (int i = 0; i < 60; i++) {
            ahead.get(i).deeds().forEach(missing::remove);
            if (missing.isEmpty()) {
                return i + 1;
            }
        }
        return NONE;
    }

    int round() {
        if (now == null) {
            return STATE;
        }
        List<Stand> ahead = now.ahead(101);
        for (int i = 1; i <= 100; i++) {
            if (ahead.get(i).turned == now.turned && i % now.turners.size() == 0 && i % 6 == 0) {
                return i;
            }
        }
        return NONE;
    }

    int fairest(int n, int what) {
        if (now == null) {
            return STATE;
        }
        if (out(n, 1, 60) || out(what, 0, 1)) {
            return BAD;
        }
        int least = 1 << 30;
        int best = 0;
        for (int b = 1; b <= 8; b++) {
            List<Stand> weeks = new ArrayList<>();
            Stand stand = now.withAway(Set.of());
            for (int i = 0; i < n; i++) {
                weeks.add(stand);
                stand = stand.nextTurnedBy(b);
            }
            int spread = now.spread(weeks);
            if (spread < least) {
                least = spread;
                best = b;
            }
        }
        return what == 0 ? least : best;
    }

    int owed(int person) {
        if (now == null) {
            return STATE;
        }
        if (out(person, 0, 5)) {
            return BAD;
        }
        int most = 0;
        for (int p = 0; p < 6; p++) {
            most = Math.max(most, now.doneBy(p));
        }
        return most - now.doneBy(person);
    }

    int right(int person, int job, int m, int what) {
        if (now == null) {
            return STATE;
        }
        if (out(person, 0, 5) || out(job, 0, 5) || out(m, 0, 60) || out(what, 0, 1)) {
            return BAD;
        }
        if (now.behind(m).does(person, job)) {
            return what == 0 ? 0 : NONE;
        }
        for (int a = 0; a < now.names.size(); a++) {
            for (int b = a + 1; b < now.names.size(); b++) {
                List<Integer> names = new ArrayList<>(now.names);
                names.set(a, now.names.get(b));
                names.set(b, now.names.get(a));
                if (now.named(names).behind(m).does(person, job)) {
                    return what == 0 ? 1 : 10 * a + b;
                }
            }
        }
        return NONE;
    }

    int twice() {
        if (now == null) {
            return STATE;
        }
        int empty = now.names.indexOf(-1);
        if (empty < 0) {
            return NONE;
        }
        int best = NONE;
        int least = 1 << 30;
        for (int person = 0; person < 6; person++) {
            Stand written = now.named(put(now.names, empty, person));
            int spread = written.spread(written.ahead(12));
            if (spread < least) {
                least = spread;
                best = person;
            }
        }
        return best;
    }

    private int placed(int row, int i, int n) {
        if (rows[row] == null) {
            return 1;
        }
        return i < 0 || (long) i + n > length(rows[row]) ? 2 : 0;
    }

    int seen(int job, int row, int i, int n) {
        if (now == null) {
            return STATE;
        }
        if (out(job, 0, 5) || out(row, 0, 7) || out(n, 1, 12)) {
            return BAD;
        }
        int wrong = placed(row, i, n);
        if (wrong != 0) {
            return found(wrong);
        }
        int bits = 0;
        for (int turned = 0; turned < now.jobs.size(); turned++) {
            List<Integer> told = new ArrayList<>();
            List<Integer> is = new ArrayList<>();
            for (Stand stand : now.turnedTo(turned).ahead(n)) {
                is.add(doers(stand, job).stream().findFirst().orElse(-1));
                told.add(item(rows[row], i + told.size()));
            }
            bits += is.equals(told) ? 1 << turned : 0;
        }
        return ok(bits);
    }

    int who(int turner, int row, int i, int n) {
        if (at(turner) == null || out(row, 0, 7) || out(n, 1, 12)) {
            return BAD;
        }
        int wrong = placed(row, i, n);
        if (wrong != 0) {
            return found(wrong);
        }
        int bits = 0;
        for (char sort : "osblr".toCharArray()) {
            List<Told> turners = new ArrayList<>(now.turners);
            turners.set(turner, new Told(sort, at(turner).by));
            List<Integer> told = new ArrayList<>();
            List<Integer> is = new ArrayList<>();
            for (Stand stand : now.withTurners(turners).next().ahead(n)) {
                is.add(stand.turned);
                told.add(item(rows[row], i + told.size()));
            }
            bits += is.equals(told) ? 1 << turners.get(turner).kind() : 0;
        }
        return ok(bits);
    }

    int pairs(int n) {
        if (now == null) {
            return STATE;
        }
        if (out(n, 1, 60)) {
            return BAD;
        }
        Set<Deed> pairs = new HashSet<>();
        for (Stand stand : now.ahead(n)) {
            for (Deed one : stand.deeds()) {
                for (Deed other : stand.deeds()) {
                    if (one.job == other.job && one.person < other.person) {
                        pairs.add(new Deed(one.person, other.person));
                    }
                }
            }
        }
        return pairs.size();
    }

    long forgets(int person, int job, int n, int p, int what) {
        if (now == null) {
            return STATE;
        }
        if (out(person, 0, 5) || out(job, 0, 5) || out(n, 0, 8) || out(p, 0, 10) || out(what, 0, 1)) {
            return BAD;
        }
        long cases = likely(now, person, job, n, p);
        long all = Math.round(Math.pow(10, n));
        for (long d = 2; d <= 5; d += 3) {
            while (cases % d == 0 && all % d == 0) {
                cases /= d;
                all /= d;
            }
        }
        return what == 0 ? cases : all;
    }

    private static long likely(Stand stand, int person, int job, int n, int p) {
        if (n == 0) {
            return stand.does(person, job) ? 1 : 0;
        }
        long turned = likely(stand.next(), person, job, n - 1, p);
        long forgotten = likely(stand.nextTurnedBy(0), person, job, n - 1, p);
        return (10 - p) * turned + p * forgotten;
    }

    int drawn(int n, int seed, int what) {
        if (now == null) {
            return STATE;
        }
        if (out(n, 0, 60) || out(seed, 1, 999999) || out(what, 0, 1)) {
            return BAD;
        }
        Stand stand = now;
        int done = 0;
        long x = seed;
        for (int i = 0; i < n; i++) {
            x = x * 16807 % 2147483647L;
            Set<Integer> gone = new HashSet<>(stand.away);
            gone.add((int) (x % 6));
            stand = stand.withAway(gone);
            done += stand.deeds().size();
            stand = stand.next();
        }
        return what == 0 ? done : stand.turned;
    }

    int image(int k) {
        if (out(k, 0, 1)) {
            return BAD;
        }
        if (now == null) {
            return STATE;
        }
        images[k] = now;
        return 1;
    }

    int restore(int k) {
        if (out(k, 0, 1)) {
            return BAD;
        }
        if (images[k] == null) {
            return STATE;
        }
        now = images[k];
        acts.clear();
        return 1;
    }

    int kind(int one) {
        return at(one) == null ? BAD : at(one).kind();
    }

    int as(int one, int kind) {
        if (at(one) == null || out(kind, 0, 5)) {
            return BAD;
        }
        String kinds = switch (at(one).sort) {
            case 'o' -> "01";
            case 's' -> "012";
            case 'b' -> "013";
            case 'l' -> "04";
            default -> "045";
        };
        return kinds.indexOf('0' + kind) < 0 ? found(3) : ok(one);
    }

    int ask(int one, int what) {
        if (at(one) == null || out(what, 0, 1)) {
            return BAD;
        }
        int by = at(one).by;
        int turned = now.turned;
        trace.clear();
        // what the bodies come to, written out for each kind
        switch (at(one).sort) {
            case 'o' -> trace.addAll(what == 0 ? List.of(11, 10, 21, 20) : List.of(21, 20));
            case 's' -> trace.addAll(what == 0 ? List.of(12, 11, 10, 24, 21, 20) : List.of(24, 21, 20));
            case 'b' -> trace.addAll(what == 0 ? List.of(11, 10, 22, 21, 20) : List.of(22, 21, 20));
            case 'l' -> trace.addAll(what == 0 ? List.of(13, 10) : List.of(23, 20, 13, 10));
            default -> trace.addAll(what == 0 ? List.of(14, 13, 10) : List.of(23, 20, 14, 13, 10));
        }
        return switch (at(one).sort) {
            case 'o' -> what == 0 ? by + one + turned : one + turned;
            case 's' -> what == 0 ? -by - 2 * (one + turned) : 2 * (one + turned);
            case 'b' -> what == 0 ? by + one + turned - 1000 : one + turned - 1000;
            case 'l' -> what == 0 ? by - 100 : one - by + 100;
            default -> what == 0 ? 2 * by - 200 : one - 2 * by + 200;
        };
    }

    int trace(int i) {
        return out(i, 0, trace.size() - 1) ? NONE : trace.get(i);
    }

    int count(int what) {
        if (out(what, 0, 7)) {
            return BAD;
        }
        if (what == 0) {
            return (int) Arrays.stream(rows).filter(row -> row != null).count();
        }
        if (what == 7) {
            return tape.length();
        }
        if (now == null) {
            return 0;
        }
        return new int[] {0, now.names.size(), now.jobs.size(), now.turners.size(), now.week,
            now.done.values().stream().mapToInt(i -> i).sum(), acts.size()}[what];
    }

    int status() {
        return status;
    }
}
