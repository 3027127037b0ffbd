import java.util.ArrayList;
import java.util.Arrays;
import java.util.Collections;
import java.util.Comparator;
import java.util.List;
import java.util.Random;

/**
 * Runs of calls drawn by a seed, each answer compared with that of a model written from the
 * document in another way: day by day, by sorting, by real classes for the VOICES, by a stack
 * machine for the TEXTS. Arguments: how many runs, and the first seed.
 */
public final class ModelTest {
    static final int LOW = -1000000, BEYOND = LOW - 1, NONE = LOW - 2, STATE = LOW - 3, FULL = LOW - 4, KIND = LOW - 5;
    static final int CALLS = 512;

    public static void main(String[] args) {
        int runs = args.length > 0 ? Integer.parseInt(args[0]) : 600;
        long seed = args.length > 1 ? Long.parseLong(args[1]) : 1;
        int wrong = 0;
        int[] answers = new int[7];
        int[][] perCall = new int[Driver.NAMES.length][7];
        for (int run = 0; run < runs && wrong < 20; run++) {
            wrong += new Driver(seed + run, answers, perCall).go();
        }
        if (args.length > 2) {
            for (int i = 0; i < perCall.length; i++) {
                System.out.println(Driver.NAMES[i] + " " + Arrays.toString(perCall[i]));
            }
        }
        // A draw that never meets a finding would prove nothing of it.
        for (int k = 0; k < 6; k++) {
            if (answers[k] == 0) {
                System.out.println("the runs never met answer class " + k);
                wrong++;
            }
        }
        System.out.println(runs + " drawn runs: " + (wrong == 0 ? "all answers are as due" : wrong + " are not as due"));
        if (wrong != 0) {
            System.exit(1);
        }
    }

    /** Draws calls, makes them on both and compares. */
    static final class Driver {
        static final String[] NAMES = {"work", "as", "edit", "link", "unlink", "week", "rain", "today", "event", "notice", "back", "of",
            "known", "plan", "end", "chain", "one", "without", "butFor", "window", "feed", "clause", "says", "force", "claim", "hurry",
            "calm", "least", "proves", "voice", "trace", "sheet", "put", "move", "image", "restore", "told", "found"};
        final Random random;
        final long seed;
        final WhoseDelay real = new WhoseDelay();
        final Model model = new Model();
        final int[] answers;
        final int[][] perCall;
        final int[] weights = new int[NAMES.length];
        final List<String> log = new ArrayList<>();
        String text = "";
        int calls = 0;
        int wrong = 0;

        Driver(long seed, int[] answers, int[][] perCall) {
            this.seed = seed;
            this.answers = answers;
            this.perCall = perCall;
            random = new Random(seed * 7919 + 17);
            for (int i = 0; i < weights.length; i++) {
                weights[i] = 4 + random.nextInt(16);
            }
            // Calls that build are drawn often, those that wipe out seldom or never.
            weights[0] = 10 + random.nextInt(30);
            weights[3] = 10 + random.nextInt(60);
            weights[4] = 1 + random.nextInt(8);
            weights[8] = 10 + random.nextInt(30);
            weights[25] = 10 + random.nextInt(20);
            weights[26] = random.nextInt(4);
            weights[35] = random.nextInt(4);
        }

        int go() {
            int total = 0;
            for (int w : weights) {
                total += w;
            }
            while (calls < CALLS && wrong == 0) {
                if (calls > 500 && random.nextInt(3) > 0) {
                    call(37, 1 + random.nextInt(5), 0, 0, 0, 0);
                    continue;
                }
                int at = random.nextInt(total);
                int which = 0;
                while (at >= weights[which]) {
                    at -= weights[which];
                    which++;
                }
                draw(which);
            }
            return wrong;
        }

        int in(int least, int most) {
            int r = random.nextInt(40);
            if (r == 0) {
                return least - 1;
            }
            if (r == 1) {
                return most + 1;
            }
            if (r == 2) {
                return random.nextInt(8) == 0 ? random.nextInt() : least;
            }
            if (r == 3) {
                return random.nextInt(12) == 0 ? (random.nextBoolean() ? Integer.MIN_VALUE : Integer.MAX_VALUE) : most;
            }
            return most < least ? least : least + random.nextInt(most - least + 1);
        }

        int work() {
            return in(0, model.s.works.size() - 1);
        }

        int event() {
            return in(0, model.s.events.size() - 1);
        }

        int day() {
            return random.nextInt(4) == 0 ? in(0, 900) : in(0, Math.min(900, model.s.today + 10));
        }

        int set() {
            int all = (1 << model.s.events.size()) - 1;
            int r = random.nextInt(30);
            return r == 0 ? random.nextInt() : r == 1 ? all + 1 : r == 2 ? -1 : r < 8 ? all : r < 11 ? 0 : random.nextInt(all + 1);
        }

        void draw(int which) {
            switch (which) {
                case 0: call(0, in(0, 5), in(1, random.nextBoolean() ? 40 : 8), 0, 0, 0); break;
                case 1: call(1, work(), in(0, 5), 0, 0, 0); break;
                case 2: call(2, work(), random.nextInt(3) == 0 ? in(1, 3) : in(1, 40), 0, 0, 0); break;
                case 3: call(3, work(), work(), in(0, 20), 0, 0); break;
                case 4: drawUnlink(); break;
                case 5: call(5, in(1, 127), 0, 0, 0, 0); break;
                case 6: call(6, random.nextInt(3) > 0 ? in(0, 120) : in(0, 899), in(1, 60), random.nextInt(3) > 0 ? 1 : 0, 0, 0); break;
                case 7: call(7, random.nextInt(20) == 0 ? in(0, 900) : in(model.s.today, Math.min(900, model.s.today + 9)), 0, 0, 0, 0); break;
                case 8: call(8, random.nextInt(20) == 0 ? in(-20, 200) : 10 * work() + in(0, 3), in(0, model.s.today), in(1, 30), 0, 0); break;
                case 9: drawNotice(); break;
                case 10: call(10, event(), 0, 0, 0, 0); break;
                case 11: call(11, event(), in(0, 6), 0, 0, 0); break;
                case 12: call(12, day(), 0, 0, 0, 0); break;
                case 13: call(13, set(), work(), in(0, 2), 0, 0); break;
                case 14: call(14, set(), 0, 0, 0, 0); break;
                case 15: call(15, set(), in(0, 6), 0, 0, 0); break;
                case 16: call(16, event(), day(), 0, 0, 0); break;
                case 17: call(17, event(), day(), 0, 0, 0); break;
                case 18: call(18, in(0, 3), day(), 0, 0, 0); break;
                case 19: drawWindow(); break;
                case 20: drawFeed(); break;
                case 21: drawClause(); break;
                case 22: call(22, in(0, 1), event(), 0, 0, 0); break;
                case 23: call(23, in(0, 1), event(), 0, 0, 0); break;
                case 24: call(24, in(0, 5), 0, 0, 0, 0); break;
                case 25: call(25, work(), in(1, 2), random.nextBoolean() ? in(1, 4) : in(1, 999), 0, 0); break;
                case 26: call(26, 0, 0, 0, 0, 0); break;
                case 27: call(27, nearEnd(), in(-1, model.s.hurried.size() - 1), 0, 0, 0); break;
                case 28: drawProves(); break;
                case 29: call(29, work(), in(0, 3), random.nextBoolean() ? random.nextInt() : in(-50, 50), 0, 0); break;
                case 30: call(30, in(0, 10), 0, 0, 0, 0); break;
                case 31: call(31, in(0, 3), random.nextInt(20) == 0 ? in(0, 33) : new int[] {0, 8, 16, 32}[random.nextInt(4)], in(0, 24), 0, 0); break;
                case 32: call(32, in(0, 3), in(0, 12), random.nextBoolean() ? random.nextInt() : in(0, 2), 0, 0); break;
                case 33: drawMove(); break;
                case 34: call(34, 0, 0, 0, 0, 0); break;
                case 35: call(35, 0, 0, 0, 0, 0); break;
                case 36: call(36, in(0, 9), 0, 0, 0, 0); break;
                default: call(37, in(1, 5), 0, 0, 0, 0); break;
            }
        }

        void drawUnlink() {
            if (model.s.links.isEmpty() || random.nextInt(3) == 0) {
                call(4, work(), work(), 0, 0, 0);
            } else {
                int[] l = model.s.links.get(random.nextInt(model.s.links.size()));
                call(4, l[0], l[1], 0, 0, 0);
            }
        }

        void drawNotice() {
            int e = event();
            int from = e >= 0 && e < model.s.events.size() ? model.s.events.get(e).day : 0;
            call(9, e, in(from, model.s.today), 0, 0, 0);
        }

        void drawWindow() {
            int n = in(5, random.nextBoolean() ? 100 : 10);
            int w = random.nextInt(4) == 0 ? in(0, 179) : in(0, Math.max(0, model.s.today / Math.max(1, Math.abs(n % 1000))));
            call(19, n, w, in(-1, 3), day(), 0);
        }

        void drawMove() {
            int n = random.nextInt(10) == 0 ? in(0, 24) : in(0, 3);
            call(33, in(0, 3), in(0, 6), in(0, 3), in(0, 6), n);
        }

        int nearEnd() {
            if (random.nextInt(8) == 0) {
                return in(0, 9999);
            }
            return Math.max(0, model.endOf(model.knownOn(model.s.today)) - random.nextInt(9));
        }

        void drawProves() {
            int size = model.s.hurried.size();
            int sheet = random.nextInt(4);
            if (random.nextInt(2) == 0) {
                int right = random.nextInt(5) > 0 ? size : size + random.nextInt(3) - 1;
                call(31, sheet, new int[] {8, 16, 32}[random.nextInt(3)], right, 0, 0);
                for (int i = 0; i < size; i++) {
                    call(32, sheet, i, random.nextInt(9) == 0 ? random.nextInt(4) - 1 : random.nextInt(model.s.hurried.get(i)[1] + 1), 0, 0);
                }
            }
            call(28, sheet, nearEnd(), random.nextInt(3) == 0 ? in(0, 20) : in(0, 3000), 0, 0);
        }

        void drawFeed() {
            if (random.nextInt(12) == 0) {
                feed(random.nextLong(), in(1, 8));
                return;
            }
            if (text.isEmpty()) {
                text = drawText();
            }
            int n = Math.min(text.length(), 1 + random.nextInt(8));
            feedText(n);
        }

        void drawClause() {
            if (random.nextInt(4) > 0) {
                if (text.isEmpty() && model.s.tape.isEmpty()) {
                    text = drawText();
                }
                while (!text.isEmpty()) {
                    feedText(Math.min(text.length(), 8));
                }
            }
            call(21, in(0, 1), random.nextInt(3) == 0 ? in(0, 900) : in(0, model.s.today / 2), 0, 0, 0);
        }

        void feedText(int n) {
            long word = random.nextLong();
            for (int i = 0; i < n; i++) {
                word = word & ~(255L << 8 * i) | (long) text.charAt(i) << 8 * i;
            }
            text = text.substring(n);
            feed(word, n);
        }

        String drawText() {
            String t;
            do {
                t = drawT(3);
            } while (t.length() > 60);
            if (random.nextInt(4) == 0) {
                StringBuilder b = new StringBuilder(t);
                String signs = "cdkntf0123456789!(<=>+-*/&|)x \u00ff";
                char c = signs.charAt(random.nextInt(signs.length()));
                int at = random.nextInt(b.length() + 1);
                switch (random.nextInt(3)) {
                    case 0: b.insert(at, c); break;
                    case 1: b.setLength(at); break;
                    default: b.setCharAt(Math.min(at, b.length() - 1), c); break;
                }
                t = b.toString();
            }
            return t.length() > 60 ? t.substring(0, 60) : t;
        }

        String drawT(int depth) {
            StringBuilder b = new StringBuilder(drawQ(depth));
            while (random.nextInt(3) > 0 && b.length() < 50) {
                b.append("|&<=>++--**//".charAt(random.nextInt(13))).append(drawQ(depth));
            }
            return b.toString();
        }

        String drawQ(int depth) {
            int r = random.nextInt(12);
            if (depth > 0 && r < 3) {
                return "(" + drawT(depth - 1) + ")";
            }
            if (r < 4) {
                return "!" + drawQ(depth - 1 < 0 ? 0 : depth - 1);
            }
            if (r < 9) {
                return String.valueOf("cdkntf".charAt(random.nextInt(6)));
            }
            return random.nextBoolean() ? "" + random.nextInt(3) : "" + random.nextInt(10000);
        }

        void feed(long word, int n) {
            if (calls < CALLS) {
                calls++;
                check(20, "feed(" + word + "L, " + n + ")", real.feed(word, n), model.feed(word, n));
            }
        }

        void call(int which, int a, int b, int c, int d, int e) {
            if (calls < CALLS) {
                calls++;
                String said = NAMES[which] + "(" + a + ", " + b + ", " + c + ", " + d + ", " + e + ")";
                check(which, said, answerOf(which, a, b, c, d, e), dueOf(which, a, b, c, d, e));
            }
        }

        void check(int which, String said, int got, int due) {
            log.add(said + " -> " + due);
            int answer = due < LOW && due >= KIND ? LOW - due : due == -1 ? 6 : 0;
            answers[answer]++;
            perCall[which][answer]++;
            if (got != due) {
                wrong++;
                System.out.println("seed " + seed + " call " + calls + ": " + said + " answered " + got + ", due is " + due);
                if (System.getenv("SHOW_LOG") != null) {
                    log.forEach(System.out::println);
                }
            }
        }

        int answerOf(int which, int a, int b, int c, int d, int e) {
            switch (which) {
                case 0: return real.work(a, b);
                case 1: return real.as(a, b);
                case 2: return real.edit(a, b);
                case 3: return real.link(a, b, c);
                case 4: return real.unlink(a, b);
                case 5: return real.week(a);
                case 6: return real.rain(a, b, c != 0);
                case 7: return real.today(a);
                case 8: return real.event(a, b, c);
                case 9: return real.notice(a, b);
                case 10: return real.back(a);
                case 11: return real.of(a, b);
                case 12: return real.known(a);
                case 13: return real.plan(a, b, c);
                case 14: return real.end(a);
                case 15: return real.chain(a, b);
                case 16: return real.one(a, b);
                case 17: return real.without(a, b);
                case 18: return real.butFor(a, b);
                case 19: return real.window(a, b, c, d);
                case 21: return real.clause(a, b);
                case 22: return real.says(a, b);
                case 23: return real.force(a, b);
                case 24: return real.claim(a);
                case 25: return real.hurry(a, b, c);
                case 26: return real.calm();
                case 27: return real.least(a, b);
                case 28: return real.proves(a, b, c);
                case 29: return real.voice(a, b, c);
                case 30: return real.trace(a);
                case 31: return real.sheet(a, b, c);
                case 32: return real.put(a, b, c);
                case 33: return real.move(a, b, c, d, e);
                case 34: return real.image();
                case 35: return real.restore();
                case 36: return real.told(a);
                default: return real.found(a);
            }
        }

        int dueOf(int which, int a, int b, int c, int d, int e) {
            int due = model.answer(which, a, b, c, d, e);
            // A voice may answer a number that looks like a finding and is none.
            if (due < LOW && due >= KIND && !(which == 29 && model.spoke)) {
                model.found[LOW - due]++;
            }
            return due;
        }
    }

    // ---- the model

    static final class Event {
        int number, work, cause, day, days, notice = -1, told, back = -1;

        Event copy() {
            Event e = new Event();
            e.number = number;
            e.work = work;
            e.cause = cause;
            e.day = day;
            e.days = days;
            e.notice = notice;
            e.told = told;
            e.back = back;
            return e;
        }

        boolean on(int d) {
            return d >= day && d <= day + days - 1;
        }
    }

    static final class State {
        List<int[]> works = new ArrayList<>();    // kind, long, long at first
        List<int[]> links = new ArrayList<>();    // from, to, lag
        List<Event> events = new ArrayList<>();
        List<Object[]> clauses = new ArrayList<>(); // use, from, text
        List<int[]> hurried = new ArrayList<>();  // work, most, price
        List<Integer> tape = new ArrayList<>();
        boolean[] rain = new boolean[900];
        int week = 31;
        int today = 0;

        State copy() {
            State s = new State();
            works.forEach(w -> s.works.add(w.clone()));
            links.forEach(l -> s.links.add(l.clone()));
            events.forEach(e -> s.events.add(e.copy()));
            s.clauses.addAll(clauses);
            hurried.forEach(h -> s.hurried.add(h.clone()));
            s.tape.addAll(tape);
            s.rain = rain.clone();
            s.week = week;
            s.today = today;
            return s;
        }
    }

    static final class Model {
        State s = new State();
        State kept = null;
        int images = 0;
        boolean spoke = false;
        final int[] found = new int[6];
        List<Integer> trace = new ArrayList<>();
        final long[][] sheets = new long[4][];
        final int[] bits = new int[4];

        int feed(long word, int n) {
            if (n < 1 || n > 8) {
                found[1]++;
                return BEYOND;
            }
            if (s.tape.size() + n > 60) {
                found[4]++;
                return FULL;
            }
            for (int i = 0; i < n; i++) {
                s.tape.add((int) (word & 255));
                word >>= 8;
            }
            return s.tape.size();
        }

        int answer(int which, int a, int b, int c, int d, int e) {
            switch (which) {
                case 0:
                    if (a < 0 || a > 5 || b < 1 || b > 40) return BEYOND;
                    if (s.works.size() == 16) return FULL;
                    s.works.add(new int[] {a, b, b});
                    return s.works.size() - 1;
                case 1:
                    if (noWork(a) || b < 0 || b > 5) return BEYOND;
                    return kindsOf(s.works.get(a)[0]).contains(b) ? s.works.get(a)[1] : KIND;
                case 2: return edit(a, b);
                case 3: return link(a, b, c);
                case 4:
                    if (noWork(a) || noWork(b)) return BEYOND;
                    for (int[] l : s.links) {
                        if (l[0] == a && l[1] == b) {
                            s.links.remove(l);
                            return l[2];
                        }
                    }
                    return NONE;
                case 5: {
                    if (a < 1 || a > 127) return BEYOND;
                    int was = s.week;
                    s.week = a;
                    return was;
                }
                case 6: return rain(a, b, c != 0);
                case 7: {
                    if (a < s.today || a > 900) return BEYOND;
                    int was = s.today;
                    s.today = a;
                    return was;
                }
                case 8: return event(a, b, c);
                case 9:
                    if (noEvent(a) || b < s.events.get(a).day || b > s.today) return BEYOND;
                    if (s.events.get(a).notice != -1) return STATE;
                    s.events.get(a).notice = b;
                    return 1;
                case 10:
                    if (noEvent(a)) return BEYOND;
                    if (s.events.get(a).back != -1 || s.events.get(a).told == s.today) return STATE;
                    s.events.get(a).back = s.today;
                    return 1;
                case 11: {
                    if (noEvent(a) || b < 0 || b > 6) return BEYOND;
                    Event v = s.events.get(a);
                    return new int[] {v.work, v.cause, v.day, v.days, v.notice, v.told, v.back}[b];
                }
                case 12: return noDay(a) ? BEYOND : bitsOf(knownOn(a));
                case 13:
                    if (setOf(a) == null || noWork(b) || c < 0 || c > 2) return BEYOND;
                    return c == 0 ? ready(b, setOf(a), -1, 0) : c == 1 ? endOfWork(b, setOf(a), -1, 0) : floatOf(b, setOf(a));
                case 14: return setOf(a) == null ? BEYOND : endOf(setOf(a));
                case 15: return chain(a, b);
                case 16:
                    if (noEvent(a) || noDay(b)) return BEYOND;
                    return oneAtATime(s.events.get(a), knownOn(b));
                case 17: {
                    if (noEvent(a) || noDay(b)) return BEYOND;
                    List<Event> all = knownOn(b);
                    List<Event> less = new ArrayList<>(all);
                    return less.remove(s.events.get(a)) ? endOf(all) - endOf(less) : NONE;
                }
                case 18: {
                    if (a < 0 || a > 3 || noDay(b)) return BEYOND;
                    List<Event> less = knownOn(b);
                    less.removeIf(v -> v.cause == a);
                    return endOf(knownOn(b)) - endOf(less);
                }
                case 19: return window(a, b, c, d);
                case 21: return clause(a, b);
                case 22:
                    if (a < 0 || a > 1 || noEvent(b)) return BEYOND;
                    return a == 0 ? risk(s.events.get(b)) : price(s.events.get(b));
                case 23: {
                    if (a < 0 || a > 1 || noEvent(b)) return BEYOND;
                    int f = inForce(a, s.events.get(b));
                    return f < 0 ? NONE : f;
                }
                case 24: return claim(a);
                case 25: return hurry(a, b, c);
                case 26: {
                    int n = s.hurried.size();
                    s.hurried.clear();
                    return n;
                }
                case 27: return least(a, b);
                case 28: return proves(a, b, c);
                case 29: return voice(a, b, c);
                case 30: return a < 0 || a >= trace.size() ? NONE : trace.get(a);
                case 31: return sheet(a, b, c);
                case 32:
                    if (a < 0 || a > 3) return BEYOND;
                    if (sheets[a] == null) return NONE;
                    if (b < 0 || b >= sheets[a].length) return BEYOND;
                    sheets[a][b] = c & (1L << bits[a]) - 1;
                    return 1;
                case 33: return move(a, b, c, d, e);
                case 34:
                    kept = s.copy();
                    return ++images;
                case 35:
                    if (kept == null) return NONE;
                    s = kept.copy();
                    return s.today;
                case 36: return told(a);
                default: return a < 1 || a > 5 ? BEYOND : found[a];
            }
        }

        boolean noWork(int w) {
            return w < 0 || w >= s.works.size();
        }

        boolean noEvent(int e) {
            return e < 0 || e >= s.events.size();
        }

        boolean noDay(int k) {
            return k < 0 || k > 900;
        }

        static List<Integer> kindsOf(int kind) {
            switch (kind) {
                case 0: return List.of(0);
                case 1: return List.of(1, 0);
                case 2: return List.of(2, 0);
                case 3: return List.of(3, 2, 0);
                case 4: return List.of(4, 0);
                default: return List.of(5, 2, 0);
            }
        }

        int edit(int w, int days) {
            if (noWork(w) || days < 1 || days > 40) return BEYOND;
            for (int[] h : s.hurried) {
                if (h[0] == w && h[1] >= days) return STATE;
            }
            int was = s.works.get(w)[1];
            s.works.get(w)[1] = days;
            return was;
        }

        boolean reaches(int from, int to) {
            if (from == to) return true;
            for (int[] l : s.links) {
                if (l[0] == from && reaches(l[1], to)) return true;
            }
            return false;
        }

        int link(int from, int to, int lag) {
            if (noWork(from) || noWork(to) || from == to || lag < 0 || lag > 20) return BEYOND;
            for (int[] l : s.links) {
                if (l[0] == from && l[1] == to) return STATE;
            }
            if (reaches(to, from)) return STATE;
            if (s.links.size() == 30) return FULL;
            s.links.add(new int[] {from, to, lag});
            return s.links.size();
        }

        int rain(int day, int n, boolean is) {
            if (n < 1 || n > 60 || day < 0 || (long) day + n - 1 > 899) return BEYOND;
            int turned = 0;
            for (int i = 0; i < n; i++) {
                if (s.rain[day + i] != is) turned++;
                s.rain[day + i] = is;
            }
            return turned;
        }

        int event(int what, int day, int days) {
            if (what < 0 || noWork(what / 10) || what % 10 > 3 || day < 0 || day > s.today || days < 1 || days > 30) return BEYOND;
            if (s.events.size() == 20) return FULL;
            Event e = new Event();
            e.number = s.events.size();
            e.work = what / 10;
            e.cause = what % 10;
            e.day = day;
            e.days = days;
            e.told = s.today;
            s.events.add(e);
            return e.number;
        }

        List<Event> knownOn(int k) {
            List<Event> known = new ArrayList<>();
            for (Event e : s.events) {
                boolean told = e.told <= k;
                boolean taken = e.back != -1 && e.back <= k;
                if (told && !taken) known.add(e);
            }
            return known;
        }

        static int bitsOf(List<Event> events) {
            int set = 0;
            for (Event e : events) {
                set += 1 << e.number;
            }
            return set;
        }

        List<Event> setOf(int set) {
            List<Event> events = new ArrayList<>();
            for (int i = 0; i < 32; i++) {
                if ((set & 1 << i) != 0) {
                    if (noEvent(i)) return null;
                    events.add(s.events.get(i));
                }
            }
            return events;
        }

        boolean goesOn(int kind, int d) {
            boolean working = (s.week & 1 << d % 7) != 0;
            boolean wet = d < 900 && s.rain[d];
            return kind == 4 || kind == 5 || working && !(kind == 1 && wet);
        }

        /** less: by how much each WORK is shorter; null for none. */
        int[] less = null;
        final int[] ends = new int[16];
        final boolean[] worked = new boolean[16];

        int ready(int w, List<Event> set, int longer, int by) {
            Arrays.fill(worked, false);
            return readyIn(w, set, longer, by);
        }

        int readyIn(int w, List<Event> set, int longer, int by) {
            int ready = 0;
            for (int[] l : s.links) {
                if (l[1] == w) ready = Math.max(ready, endIn(l[0], set, longer, by) + l[2]);
            }
            return ready;
        }

        int endOfWork(int w, List<Event> set, int longer, int by) {
            Arrays.fill(worked, false);
            return endIn(w, set, longer, by);
        }

        int endIn(int w, List<Event> set, int longer, int by) {
            if (worked[w]) return ends[w];
            int day = readyIn(w, set, longer, by);
            int need = s.works.get(w)[1] + (w == longer ? by : 0) - (less == null ? 0 : less[w]);
            for (Event e : set) {
                if (e.work == w) need += e.days;
            }
            while (need > 0) {
                if (goesOn(s.works.get(w)[0], day)) need--;
                day++;
            }
            worked[w] = true;
            ends[w] = day;
            return day;
        }

        int endOf(List<Event> set) {
            return endWith(set, -1, 0);
        }

        int endWith(List<Event> set, int longer, int by) {
            Arrays.fill(worked, false);
            int end = 0;
            for (int w = 0; w < s.works.size(); w++) {
                end = Math.max(end, endIn(w, set, longer, by));
            }
            return end;
        }

        int floatOf(int w, List<Event> set) {
            int end = endOf(set);
            int can = 0;
            for (int by = 1; by <= 99; by++) {
                if (endWith(set, w, by) == end) can = by;
            }
            return can;
        }

        int chain(int bits, int i) {
            List<Event> set = setOf(bits);
            if (set == null || i < 0) return BEYOND;
            List<Integer> chain = new ArrayList<>();
            int end = endOf(set);
            for (int w = 0; w < s.works.size() && chain.isEmpty(); w++) {
                if (endOfWork(w, set, -1, 0) == end) chain.add(w);
            }
            boolean goes = !chain.isEmpty();
            while (goes) {
                int at = chain.get(chain.size() - 1);
                int best = 99;
                int ready = ready(at, set, -1, 0);
                for (int[] l : s.links) {
                    if (l[1] == at && endOfWork(l[0], set, -1, 0) + l[2] == ready) best = Math.min(best, l[0]);
                }
                goes = best < 99;
                if (goes) chain.add(best);
            }
            return i < chain.size() ? chain.get(i) : NONE;
        }

        static List<Event> inOrder(List<Event> events) {
            List<Event> sorted = new ArrayList<>(events);
            sorted.sort(Comparator.comparingInt((Event e) -> e.day).thenComparingInt(e -> e.number));
            return sorted;
        }

        int oneAtATime(Event event, List<Event> all) {
            List<Event> sorted = inOrder(all);
            int at = sorted.indexOf(event);
            if (at < 0) return NONE;
            return endOf(sorted.subList(0, at + 1)) - endOf(sorted.subList(0, at));
        }

        int window(int n, int w, int cause, int k) {
            if (n < 5 || n > 100 || w < 0 || w > 179 || cause < -1 || cause > 3 || noDay(k)) return BEYOND;
            List<Event> ahead = new ArrayList<>();
            List<Event> inside = new ArrayList<>();
            List<Event> upTo = new ArrayList<>();
            for (Event e : knownOn(k)) {
                if (e.day < w * n) ahead.add(e);
                if (e.day / n == w) inside.add(e);
                if (e.day < w * n + n) upTo.add(e);
            }
            int lost = endOf(upTo) - endOf(ahead);
            if (cause == -1) return lost;
            int[] days = new int[4];
            int all = 0;
            for (Event e : inside) {
                days[e.cause] += e.days;
                all += e.days;
            }
            if (all == 0) return 0;
            int total = all;
            int[] parts = new int[4];
            int left = lost;
            List<Integer> causes = new ArrayList<>();
            for (int c = 0; c < 4; c++) {
                parts[c] = lost * days[c] / all;
                left -= parts[c];
                if (days[c] > 0) causes.add(c);
            }
            causes.sort(Comparator.comparingInt((Integer c) -> -(lost * days[c] % total)).thenComparingInt(c -> c));
            for (int i = 0; i < left; i++) {
                parts[causes.get(i)]++;
            }
            return parts[cause];
        }

        int clause(int use, int from) {
            if (use < 0 || use > 1 || noDay(from)) return BEYOND;
            if (s.clauses.size() == 10) return FULL;
            StringBuilder b = new StringBuilder();
            s.tape.forEach(x -> b.append((char) (int) x));
            s.tape.clear();
            int fault = Text.fault(b.toString());
            if (fault >= 0) return -10 - fault;
            s.clauses.add(new Object[] {use, from, b.toString()});
            return s.clauses.size() - 1;
        }

        int inForce(int use, Event e) {
            int last = -1;
            for (int i = 0; i < s.clauses.size(); i++) {
                Object[] c = s.clauses.get(i);
                if ((int) c[0] == use && (int) c[1] <= e.day) last = i;
            }
            return last;
        }

        boolean twoAtOnce(Event e) {
            for (Event o : knownOn(s.today)) {
                for (int d = 0; d < 1000; d++) {
                    if (o != e && o.cause != e.cause && o.on(d) && e.on(d)) return true;
                }
            }
            return false;
        }

        int value(int clause, Event e) {
            String text = (String) s.clauses.get(clause)[2];
            int n = e.notice == -1 ? 999 : e.notice - e.day;
            int f = text.indexOf('f') < 0 ? 0 : floatOf(e.work, List.of());
            return Text.value(text, new int[] {e.cause, e.days, s.works.get(e.work)[0], n, twoAtOnce(e) ? 1 : 0, f});
        }

        int risk(Event e) {
            int clause = inForce(0, e);
            if (clause < 0) return new int[] {2, 0, 1, 1}[e.cause];
            int v = value(clause, e);
            return v < 1 ? 0 : v == 1 ? 1 : 2;
        }

        int price(Event e) {
            int clause = inForce(1, e);
            if (clause < 0) return 100;
            int v = value(clause, e);
            return v < 0 ? 0 : v > 9999 ? 9999 : v;
        }

        int claim(int what) {
            if (what < 0 || what > 5) return BEYOND;
            List<Event> all = knownOn(s.today);
            List<Event> time = new ArrayList<>();
            List<Event> pay = new ArrayList<>();
            List<Event> two = new ArrayList<>();
            for (Event e : all) {
                if (risk(e) > 0) time.add(e);
                if (risk(e) > 1) pay.add(e);
                if (twoAtOnce(e)) two.add(e);
            }
            int granted = endOf(time) - endOf(List.of());
            int due = endOf(List.of()) + granted;
            int paid = 0;
            int before = endOf(List.of());
            List<Event> upTo = new ArrayList<>();
            for (Event e : inOrder(pay)) {
                upTo.add(e);
                paid += (endOf(upTo) - before) * price(e);
                before = endOf(upTo);
            }
            return new int[] {granted, due, paid, endOf(all) - due, bitsOf(time), bitsOf(two)}[what];
        }

        int hurry(int w, int most, int price) {
            if (noWork(w) || most < 1 || most > 2 || price < 1 || price > 999) return BEYOND;
            if (s.works.get(w)[0] == 5) return KIND;
            if (s.works.get(w)[1] <= most) return STATE;
            for (int[] h : s.hurried) {
                if (h[0] == w) return STATE;
            }
            if (s.hurried.size() == 5) return FULL;
            s.hurried.add(new int[] {w, most, price});
            return s.hurried.size();
        }

        int hurriedEnd(int[] by) {
            less = new int[16];
            for (int i = 0; i < by.length; i++) {
                less[s.hurried.get(i)[0]] = by[i];
            }
            int end = endOf(knownOn(s.today));
            less = null;
            return end;
        }

        int sum(int[] by) {
            int sum = 0;
            for (int i = 0; i < by.length; i++) {
                sum += by[i] * s.hurried.get(i)[2];
            }
            return sum;
        }

        void choices(int[] by, int i, int day, List<int[]> all) {
            if (i == by.length) {
                if (hurriedEnd(by) <= day) all.add(by.clone());
                return;
            }
            for (int h = s.hurried.get(i)[1]; h >= 0; h--) {
                by[i] = h;
                choices(by, i + 1, day, all);
            }
        }

        int least(int day, int what) {
            if (day < 0 || day > 9999 || what < -1 || what >= s.hurried.size()) return BEYOND;
            List<int[]> all = new ArrayList<>();
            choices(new int[s.hurried.size()], 0, day, all);
            if (all.isEmpty()) return NONE;
            int[] best = Collections.min(all, Comparator.comparingInt(this::sum).thenComparing(Arrays::compare));
            return what == -1 ? sum(best) : best[what];
        }

        int proves(int sheet, int day, int v) {
            if (sheet < 0 || sheet > 3 || day < 0 || day > 9999 || v < 0) return BEYOND;
            long[] row = sheets[sheet];
            if (row == null) return NONE;
            int may = s.hurried.size();
            for (int i = 0; i < Math.max(row.length, may); i++) {
                if (i >= row.length || i >= may || row[i] > s.hurried.get(i)[1]) return i;
            }
            int[] by = new int[may];
            for (int i = 0; i < may; i++) {
                by[i] = (int) row[i];
            }
            return hurriedEnd(by) > day ? 100 : sum(by) > v ? 101 : -1;
        }

        int voice(int w, int act, int x) {
            spoke = !noWork(w) && act >= 0 && act <= 3;
            if (!spoke) return BEYOND;
            int[] k = s.works.get(w);
            WorkVoice v = k[0] == 0 ? new WorkVoice() : k[0] == 1 ? new DiggingVoice() : k[0] == 2 ? new BuildingVoice()
                : k[0] == 3 ? new FittingVoice() : k[0] == 4 ? new PaperVoice() : new CuringVoice();
            v.n = w;
            v.l = k[2];
            trace = v.trace;
            return act == 0 ? v.hold(x) : act == 1 ? v.push(x) : act == 2 ? v.waits(x) : v.tell(x);
        }

        int sheet(int sheet, int b, int n) {
            if (sheet < 0 || sheet > 3 || !List.of(0, 8, 16, 32).contains(b)) return BEYOND;
            if (b == 0) {
                sheets[sheet] = null;
                return 1;
            }
            if (n < 0) return STATE;
            if (n > 24) return BEYOND;
            sheets[sheet] = new long[n];
            bits[sheet] = b;
            return 1;
        }

        int move(int sheet, int i, int other, int j, int n) {
            if (sheet < 0 || sheet > 3 || other < 0 || other > 3) return BEYOND;
            if (sheets[sheet] == null || sheets[other] == null) return NONE;
            if (bits[sheet] != bits[other]) return KIND;
            if (n < 0 || i < 0 || j < 0 || (long) i + n > sheets[sheet].length || (long) j + n > sheets[other].length) return BEYOND;
            long[] were = sheets[sheet].clone();
            for (int at = 0; at < n; at++) {
                sheets[other][j + at] = were[i + at];
            }
            return n;
        }

        int told(int what) {
            if (what < 0 || what > 9) return BEYOND;
            int wet = 0;
            for (boolean r : s.rain) {
                wet += r ? 1 : 0;
            }
            return new int[] {s.works.size(), s.links.size(), s.events.size(), knownOn(s.today).size(), s.clauses.size(), s.today,
                wet, s.tape.size(), s.hurried.size(), Math.min(40, trace.size())}[what];
        }
    }

    // ---- VOICES as real classes

    static class WorkVoice {
        int n, l;
        final List<Integer> trace = new ArrayList<>();

        int hold(int x) { trace.add(10); return x + l; }
        int push(int x) { trace.add(11); return hold(x) * 2; }
        int waits(int x) { trace.add(12); return x - n; }
        int tell(int x) { trace.add(13); return push(x) ^ waits(x); }
    }

    static final class DiggingVoice extends WorkVoice {
        @Override int push(int x) { trace.add(20); return super.push(x) - waits(x); }
    }

    static class BuildingVoice extends WorkVoice {
        @Override int hold(int x) { trace.add(30); return super.hold(x) + n; }
        @Override int tell(int x) { trace.add(31); return super.tell(x + 1); }
    }

    static final class FittingVoice extends BuildingVoice {
        @Override int waits(int x) { trace.add(40); return super.waits(x) * 3; }
        @Override int hold(int x) { trace.add(41); return super.hold(x - l); }
    }

    static final class PaperVoice extends WorkVoice {
        @Override int tell(int x) { trace.add(50); return waits(x) - super.tell(x); }
    }

    static final class CuringVoice extends BuildingVoice {
        @Override int waits(int x) { trace.add(60); return super.waits(x + n); }
        @Override int push(int x) { trace.add(61); return super.push(x) ^ hold(x); }
    }

    // ---- TEXTS by a stack machine

    static final class Text {
        /** The FAULT, or -1: follows only what may come next, without a tree. */
        static int fault(String t) {
            StringBuilder open = new StringBuilder();  // ! and (, as they are open
            List<Boolean> compared = new ArrayList<>(List.of(false)); // whether a B has its sign, for each (
            boolean operand = true;
            int digits = 0;
            for (int i = 0; i < t.length(); i++) {
                char ch = t.charAt(i);
                int top = compared.size() - 1;
                if (digits > 0 && Character.isDigit(ch) && ch < 128) {
                    if (++digits > 4) return i;
                    continue;
                }
                digits = 0;
                if (operand) {
                    if (ch == '!' || ch == '(') {
                        if (open.length() == 5) return i;
                        open.append(ch);
                        if (ch == '(') compared.add(false);
                        continue;
                    }
                    if (ch >= '0' && ch <= '9') {
                        digits = 1;
                    } else if ("cdkntf".indexOf(ch) < 0) {
                        return i;
                    }
                    operand = false;
                } else if (ch == ')') {
                    if (top == 0) return i;
                    open.setLength(open.length() - 1);
                    compared.remove(top);
                } else {
                    if ("<=>".indexOf(ch) >= 0) {
                        if (compared.get(top)) return i;
                        compared.set(top, true);
                    } else if ("|&".indexOf(ch) >= 0) {
                        compared.set(top, false);
                    } else if ("+-*/".indexOf(ch) < 0) {
                        return i;
                    }
                    operand = true;
                    continue;
                }
                while (open.length() > 0 && open.charAt(open.length() - 1) == '!') {
                    open.setLength(open.length() - 1);
                }
            }
            return operand || open.length() > 0 ? t.length() : -1;
        }

        static int rank(char op) {
            return op == '(' ? 0 : op == '|' ? 1 : op == '&' ? 2 : "<=>".indexOf(op) >= 0 ? 3 : op == '+' || op == '-' ? 4 : op == '!' ? 6 : 5;
        }

        static void apply(List<Integer> values, char op) {
            int b = values.remove(values.size() - 1);
            if (op == '!') {
                values.add(b == 0 ? 1 : 0);
                return;
            }
            int a = values.remove(values.size() - 1);
            switch (op) {
                case '|': values.add(a != 0 || b != 0 ? 1 : 0); break;
                case '&': values.add(a != 0 && b != 0 ? 1 : 0); break;
                case '<': values.add(a < b ? 1 : 0); break;
                case '=': values.add(a == b ? 1 : 0); break;
                case '>': values.add(a > b ? 1 : 0); break;
                case '+': values.add(a + b); break;
                case '-': values.add(a - b); break;
                case '*': values.add(a * b); break;
                default: values.add(b == 0 ? 0 : a / b); break;
            }
        }

        static int value(String t, int[] names) {
            List<Integer> values = new ArrayList<>();
            StringBuilder ops = new StringBuilder();
            for (int i = 0; i < t.length(); i++) {
                char ch = t.charAt(i);
                if (ch >= '0' && ch <= '9') {
                    int v = 0;
                    while (i < t.length() && t.charAt(i) >= '0' && t.charAt(i) <= '9') {
                        v = v * 10 + t.charAt(i++) - '0';
                    }
                    i--;
                    values.add(v);
                } else if ("cdkntf".indexOf(ch) >= 0) {
                    values.add(names["cdkntf".indexOf(ch)]);
                } else if (ch == '!' || ch == '(') {
                    ops.append(ch);
                } else {
                    int rank = ch == ')' ? 1 : rank(ch);
                    while (ops.length() > 0 && rank(ops.charAt(ops.length() - 1)) >= rank) {
                        apply(values, ops.charAt(ops.length() - 1));
                        ops.setLength(ops.length() - 1);
                    }
                    if (ch == ')') {
                        ops.setLength(ops.length() - 1);
                    } else {
                        ops.append(ch);
                    }
                }
            }
            while (ops.length() > 0) {
                apply(values, ops.charAt(ops.length() - 1));
                ops.setLength(ops.length() - 1);
            }
            return values.get(0);
        }
    }
}
