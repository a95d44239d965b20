import java.util.ArrayList;
import java.util.Comparator;
import java.util.HashSet;
import java.util.List;
import java.util.Random;
import java.util.Set;

/** Many runs of calls with a fixed seed, each answer beside that of a slow, plain reading of the document. */
public final class ModelTest {
    private static final int NONE = -99999999;
    private static final int RUNS = 6000;
    private static final int CALLS = 512;

    private static final class Op {
        int kind, size, step, lateness, rule, mark;
    }

    private static final class Src {
        int op, promise, used, aside, broken, firstBroken = NONE;
        boolean ended, stopped;
    }

    private static final class Came {
        int source, key, time, v, why;
    }

    private static final class Win {
        int op, key, begin, end;
        final List<Integer> values = new ArrayList<>();
        long[] told;
        boolean grown;

        long[] numbers() {
            long sum = 0;
            long least = Long.MAX_VALUE;
            long greatest = Long.MIN_VALUE;
            for (int v : values) {
                sum += v;
                least = Math.min(least, v);
                greatest = Math.max(greatest, v);
            }
            return new long[] {values.size(), sum, least, greatest};
        }
    }

    /** The document, word by word. */
    private static final class Model {
        final List<Op> ops = new ArrayList<>();
        final List<Src> srcs = new ArrayList<>();
        final List<Came> came = new ArrayList<>();
        final List<Win> wins = new ArrayList<>();
        final List<long[]> results = new ArrayList<>();
        final List<Came> aside = new ArrayList<>();
        int bound = 100, rule = 0, dropped = 0;
        List<Win> passed = new ArrayList<>();

        static boolean in(int n, int a, int b) {
            return a <= n && n <= b;
        }

        int operator(int kind, int size, int step, int lateness, int rule) {
            boolean good = in(kind, 0, 2) && in(rule, 0, 2) && in(size, 1, 1000000) && in(step, 1, 1000000)
                && in(lateness, 0, 1000000) && (kind != 1 || (step <= size && size <= 8L * step));
            if (!good) return -1;
            if (ops.size() == 5) return -3;
            Op o = new Op();
            o.kind = kind;
            o.size = size;
            o.step = step;
            o.lateness = lateness;
            o.rule = rule;
            ops.add(o);
            return ops.size() - 1;
        }

        int source(int op) {
            if (!in(op, 0, ops.size() - 1)) return -1;
            if (ops.get(op).mark == 1000000000) return -2;
            if (srcs.size() == 10) return -3;
            Src s = new Src();
            s.op = op;
            srcs.add(s);
            return srcs.size() - 1;
        }

        int promise(int source, int t) {
            if (!in(source, 0, srcs.size() - 1) || !in(t, 0, 999999999)) return -1;
            Src s = srcs.get(source);
            if (s.promise > t || s.ended) return -2;
            s.promise = t;
            return move(s.op);
        }

        int end(int source) {
            if (!in(source, 0, srcs.size() - 1)) return -1;
            Src s = srcs.get(source);
            if (s.ended) return -2;
            s.ended = true;
            return move(s.op);
        }

        int move(int op) {
            int before = results.size();
            Op o = ops.get(op);
            int least = 1000000000;
            for (Src s : srcs) if (s.op == op && !s.ended) least = Math.min(least, s.promise);
            if (least <= o.mark) return 0;
            o.mark = least;
            List<Win> mine = new ArrayList<>();
            for (Win w : wins) if (w.op == op) mine.add(w);
            mine.sort(Comparator.<Win>comparingInt(w -> w.end).thenComparingInt(w -> w.key).thenComparingInt(w -> w.begin));
            for (Win w : mine) if (w.told == null && w.end <= o.mark) tell(w);
            for (Win w : mine) {
                if (!closed(o, w.end)) continue;
                if (w.grown) {
                    takeBack(w);
                    tell(w);
                }
                wins.remove(w);
            }
            return results.size() - before;
        }

        static boolean closed(Op o, int end) {
            return (long) end + o.lateness <= o.mark;
        }

        void tell(Win w) {
            w.told = w.numbers();
            w.grown = false;
            say(1, w);
        }

        void takeBack(Win w) {
            say(-1, w);
        }

        void say(int sign, Win w) {
            results.add(new long[] {sign, w.op, w.key, w.begin, w.end, w.told[0], w.told[1], w.told[2], w.told[3]});
        }

        /** The windows a row belongs into, by begins; of GAPS the one that would come. */
        List<int[]> spans(int op, int key, int time, List<Win> there, List<Win> joined) {
            Op o = ops.get(op);
            List<int[]> spans = new ArrayList<>();
            if (o.kind == 2) {
                int[] span = {time, time + o.size};
                boolean more = true;
                while (more) {
                    more = false;
                    for (Win w : there) {
                        boolean common = Math.max(span[0], w.begin) < Math.min(span[1], w.end);
                        if (w.op == op && w.key == key && common && !joined.contains(w)) {
                            joined.add(w);
                            span[0] = Math.min(span[0], w.begin);
                            span[1] = Math.max(span[1], w.end);
                            more = true;
                        }
                    }
                }
                joined.sort(Comparator.comparingInt(w -> w.begin));
                spans.add(span);
            } else {
                int step = o.kind == 0 ? o.size : o.step;
                for (int begin = time - time % step; begin + o.size > time; begin -= step) {
                    spans.add(0, new int[] {begin, begin + o.size});
                }
            }
            return spans;
        }

        Win find(List<Win> there, int op, int key, int begin) {
            for (Win w : there) if (w.op == op && w.key == key && w.begin == begin) return w;
            return null;
        }

        int row(int source, int key, int time, int v) {
            if (!in(source, 0, srcs.size() - 1) || !in(key, 0, 9) || !in(time, 0, 100000000)) return -1;
            Src s = srcs.get(source);
            if (s.ended || s.stopped) return -2;
            if (came.size() == 300) return -3;
            Op o = ops.get(s.op);
            List<Win> joined = new ArrayList<>();
            List<int[]> spans = spans(s.op, key, time, wins, joined);
            List<int[]> open = new ArrayList<>();
            for (int[] span : spans) if (!closed(o, span[1])) open.add(span);
            boolean passedEnd = false;
            for (int[] span : open) passedEnd |= span[1] <= o.mark;
            for (Win w : joined) passedEnd |= w.told != null;
            int why = open.isEmpty() ? 1 : o.rule == 2 && passedEnd ? 2 : 0;
            if (why != 0 && aside.size() + 1 > bound && rule == 1) {
                s.stopped = true;
                return -2;
            }
            if (why == 0) {
                int after = wins.size() - joined.size();
                for (int[] span : open) if (o.kind == 2 || find(wins, s.op, key, span[0]) == null) after++;
                if (after > 120) return -3;
            }
            Came c = new Came();
            c.source = source;
            c.key = key;
            c.time = time;
            c.v = v;
            c.why = why;
            came.add(c);
            if (time < s.promise && s.broken++ == 0) s.firstBroken = time;
            if (why != 0) {
                s.aside++;
                aside.add(c);
                if (aside.size() > bound) {
                    aside.remove(0);
                    dropped++;
                }
                return 0;
            }
            s.used++;
            for (int[] span : open) use(s.op, key, v, span, joined);
            return 1;
        }

        void use(int op, int key, int v, int[] span, List<Win> joined) {
            Op o = ops.get(op);
            Win w = find(wins, op, key, span[0]);
            if (w == null || w.end != span[1]) {
                w = new Win();
                w.op = op;
                w.key = key;
                w.begin = span[0];
                w.end = span[1];
                for (Win j : joined) {
                    if (j.told != null) takeBack(j);
                    w.values.addAll(j.values);
                    wins.remove(j);
                }
                wins.add(w);
            }
            w.values.add(v);
            if (w.told == null) {
                if (w.end <= o.mark) tell(w);
            } else if (o.rule == 1) {
                w.grown = true;
            } else {
                takeBack(w);
                tell(w);
            }
        }

        int pass(int op, boolean all) {
            if (!in(op, 0, ops.size() - 1)) return -1;
            List<Win> there = new ArrayList<>();
            for (Came c : came) {
                if (srcs.get(c.source).op != op || (c.why != 0 && !all)) continue;
                List<Win> joined = new ArrayList<>();
                for (int[] span : spans(op, c.key, c.time, there, joined)) {
                    Win w = find(there, op, c.key, span[0]);
                    if (w == null || w.end != span[1]) {
                        w = new Win();
                        w.op = op;
                        w.key = c.key;
                        w.begin = span[0];
                        w.end = span[1];
                        for (Win j : joined) w.values.addAll(j.values);
                        there.removeAll(joined);
                        there.add(w);
                    }
                    w.values.add(c.v);
                }
            }
            there.sort(Comparator.<Win>comparingInt(w -> w.key).thenComparingInt(w -> w.begin));
            passed = there;
            return there.size();
        }

        int take() {
            int n = aside.size();
            aside.clear();
            for (Src s : srcs) s.stopped = false;
            return n;
        }

        int bound(int n, int rule) {
            if (!in(n, 0, 100) || !in(rule, 0, 1)) return -1;
            if (aside.size() > n) return -2;
            bound = n;
            this.rule = rule;
            return aside.size();
        }

        static long pick(int what, long... from) {
            return in(what, 0, from.length - 1) ? from[what] : NONE;
        }

        long result(int i, int what) {
            int kept = Math.min(400, results.size());
            return in(i, 0, kept - 1) ? pick(what, results.get(results.size() - kept + i)) : NONE;
        }

        long aside(int i, int what) {
            if (!in(i, 0, aside.size() - 1)) return NONE;
            Came c = aside.get(i);
            return pick(what, c.source, c.key, c.time, c.v, c.why);
        }

        long of(int source, int what) {
            if (!in(source, 0, srcs.size() - 1)) return NONE;
            Src s = srcs.get(source);
            return pick(what, s.op, s.promise, s.ended ? 1 : 0, s.stopped ? 1 : 0, s.used, s.aside, s.broken, s.firstBroken);
        }

        long mark(int op) {
            return in(op, 0, ops.size() - 1) ? ops.get(op).mark : -1;
        }

        long window(int op, int key, int i, int what) {
            List<Win> mine = new ArrayList<>();
            for (Win w : wins) if (w.op == op && w.key == key) mine.add(w);
            mine.sort(Comparator.comparingInt(w -> w.begin));
            if (!in(i, 0, mine.size() - 1)) return NONE;
            Win w = mine.get(i);
            long[] n = w.numbers();
            return pick(what, w.begin, w.end, w.told != null ? 1 : 0, n[0], n[1], n[2], n[3]);
        }

        long passed(int i, int what) {
            if (!in(i, 0, passed.size() - 1)) return NONE;
            Win w = passed.get(i);
            long[] n = w.numbers();
            return pick(what, w.key, w.begin, w.end, n[0], n[1], n[2], n[3]);
        }

        long count(int what) {
            long n = pick(what, ops.size(), srcs.size(), came.size(), wins.size(), Math.min(400, results.size()),
                results.size(), aside.size(), dropped, passed.size());
            return n == NONE ? -1 : n;
        }
    }

    /** One run: how it draws its calls, and both that answer them. */
    private static final class Run {
        final Random random;
        final LateRows x = new LateRows();
        final Model m = new Model();
        final List<String> calls = new ArrayList<>();
        final Set<String> seen;
        final int askPercent, spread, keys, longest, pace, wildPercent, start;
        boolean good = true;

        Run(int seed, Set<String> seen) {
            random = new Random(seed);
            this.seen = seen;
            askPercent = new int[] {2, 10, 50}[below(3)];
            spread = new int[] {12, 40, 200, 2000, 2000000}[below(5)];
            keys = new int[] {1, 2, 10}[below(3)];
            longest = new int[] {3, 12, 40, 1000000}[below(4)];
            pace = new int[] {1, 5, 40, 400, 300000}[below(5)];
            wildPercent = new int[] {0, 1, 5}[below(3)];
            start = below(5) == 0 ? 100000000 - below(spread * 2) : 0;
        }

        int below(int n) {
            return random.nextInt(n);
        }

        int wild(int n) {
            if (below(100) >= wildPercent) return n;
            int[] odd = {-1, 0, 1, 9, 10, 100, 101, 100000000, 100000001, 999999999, 1000000000,
                Integer.MAX_VALUE, Integer.MIN_VALUE, -99999999};
            return odd[below(odd.length)];
        }

        void same(String call, long got, long want) {
            calls.add(call + " = " + want);
            if (got != want) {
                good = false;
                int from = Math.max(0, calls.size() - 30);
                for (String c : calls.subList(from, calls.size())) System.out.println("  " + c);
                System.out.println("answered " + got);
            }
        }

        boolean go() {
            makeOperator();
            makeSource();
            // some runs are near the greatest time from their first row on
            if (start > 0) same("promise(0, " + start + ")", x.promise(0, start), m.promise(0, start));
            while (good && calls.size() < CALLS) {
                if (below(100) < askPercent || calls.size() > CALLS - 60) ask();
                else change();
            }
            return good;
        }

        void makeOperator() {
            int kind = wild(below(3));
            int size = wild(1 + below(longest));
            int step = kind == 1 ? wild((size + 7) / 8 + below(Math.max(1, size / 2))) : wild(1 + below(5));
            int lateness = wild(below(4) == 0 ? 0 : below(Math.min(1000001, spread * 2)));
            int rule = wild(below(3));
            same("operator(" + kind + ", " + size + ", " + step + ", " + lateness + ", " + rule + ")",
                x.operator(kind, size, step, lateness, rule), m.operator(kind, size, step, lateness, rule));
        }

        void makeSource() {
            int op = wild(below(m.ops.size() + 1));
            int answer = m.source(op);
            same("source(" + op + ")", x.source(op), answer);
        }

        void change() {
            int dice = below(200);
            if (dice < 4) makeOperator();
            else if (dice < 12) makeSource();
            else if (dice < 13) finish();
            else if (dice < 40) advance();
            else if (dice < 42) same("take()", x.take(), m.take());
            else if (dice < 44) rebound();
            else send();
        }

        void finish() {
            int source = wild(below(m.srcs.size() + 1));
            same("end(" + source + ")", x.end(source), m.end(source));
        }

        void advance() {
            int source = wild(below(m.srcs.size() + 1));
            int t = wild((int) Math.max(0, m.of(source, 1)) + below(pace * 3 + 2) - 1);
            same("promise(" + source + ", " + t + ")", x.promise(source, t), m.promise(source, t));
        }

        void rebound() {
            int n = wild(below(3) == 0 ? 100 : below(12));
            int rule = wild(below(2));
            same("bound(" + n + ", " + rule + ")", x.bound(n, rule), m.bound(n, rule));
        }

        void send() {
            int source = wild(below(Math.max(1, m.srcs.size() + (below(20) == 0 ? 1 : 0))));
            int key = wild(below(keys));
            long mark = Math.max(0, m.mark((int) Math.max(0, m.of(source, 0))));
            int time = wild((int) Math.min(100000000, Math.max(0, mark + below(spread * 2) - spread)));
            int v = below(20) == 0 ? random.nextInt() : below(21) - 10;
            int rows = m.came.size();
            int answer = m.row(source, key, time, v);
            same("row(" + source + ", " + key + ", " + time + ", " + v + ")", x.row(source, key, time, v), answer);
            if (answer == -3) seen.add(rows == 300 ? "300 rows" : "120 windows");
            if (answer == 0) seen.add("aside for " + m.came.get(rows).why);
            if (m.dropped > 0) seen.add("dropped");
            if (m.of(source, 3) == 1) seen.add("stopped");
            if (m.results.size() > 400) seen.add("more than 400 results");
        }

        void ask() {
            int what = wild(below(10));
            int op = wild(below(m.ops.size() + 1));
            switch (below(8)) {
                case 0: {
                    int i = wild(below(Math.min(400, m.results.size()) + 1));
                    same("result(" + i + ", " + what + ")", x.result(i, what), m.result(i, what));
                    break;
                }
                case 1: {
                    int i = wild(below(m.aside.size() + 1));
                    same("aside(" + i + ", " + what + ")", x.aside(i, what), m.aside(i, what));
                    break;
                }
                case 2: {
                    int source = wild(below(m.srcs.size() + 1));
                    same("of(" + source + ", " + what + ")", x.of(source, what), m.of(source, what));
                    break;
                }
                case 3: {
                    int key = wild(below(keys));
                    int i = wild(below(6));
                    same("window(" + op + ", " + key + ", " + i + ", " + what + ")",
                        x.window(op, key, i, what), m.window(op, key, i, what));
                    break;
                }
                case 4: {
                    boolean all = random.nextBoolean();
                    same("pass(" + op + ", " + all + ")", x.pass(op, all), m.pass(op, all));
                    break;
                }
                case 5: {
                    int i = wild(below(m.passed.size() + 1));
                    same("passed(" + i + ", " + what + ")", x.passed(i, what), m.passed(i, what));
                    break;
                }
                case 6:
                    same("mark(" + op + ")", x.mark(op), m.mark(op));
                    break;
                default:
                    same("count(" + what + ")", x.count(what), m.count(what));
            }
        }
    }

    public static void main(String[] args) {
        Set<String> seen = new HashSet<>();
        int wrong = 0;
        for (int seed = 0; seed < RUNS && wrong < 3; seed++) {
            if (!new Run(seed, seen).go()) {
                wrong++;
                System.out.println("run " + seed + " differs from the model");
            }
        }
        // runs that never come to an edge would say nothing about it
        for (String edge : List.of("300 rows", "120 windows", "aside for 1", "aside for 2", "dropped", "stopped",
            "more than 400 results")) {
            if (!seen.contains(edge)) {
                wrong++;
                System.out.println("no run came to: " + edge);
            }
        }
        System.out.println(wrong == 0 ? "all runs are as the model's" : "some runs are not as due");
        if (wrong != 0) System.exit(1);
    }
}
