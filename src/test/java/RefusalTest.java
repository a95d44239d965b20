import java.util.ArrayList;
import java.util.List;
import java.util.function.Consumer;
import java.util.function.ToLongFunction;

/**
 * BAD, NO and FULL "change nothing (but where it says so)": of two objects with the same calls one gets a refused
 * call more, and then both answer every question, and go on, alike.
 */
public final class RefusalTest {
    private static final int BAD = -1, NO = -2, FULL = -3, NONE = -99999999;
    private static final int FIXED = 0, SLIDING = 1, GAPS = 2;
    private static final int DROP = 0, STOP = 1;
    private static final int LEAST_INT = Integer.MIN_VALUE, GREATEST_INT = Integer.MAX_VALUE;
    /** An object is good for 512 calls: some 340 before, the refused one, some 30 behind it, and these questions. */
    private static final int QUESTIONS_AT_ONCE = 140;
    private static int wrong = 0;
    private static int refusals = 0;

    private record Question(String text, ToLongFunction<LateRows> ask) {
    }

    private static final List<Question> QUESTIONS = questions();

    private static List<Question> questions() {
        List<Question> all = new ArrayList<>();
        for (int w = 0; w < 9; w++) {
            int what = w;
            all.add(new Question("count(" + what + ")", x -> x.count(what)));
            for (int n = 0; n < 30; n++) {
                int i = n;
                all.add(new Question("result(" + i + ", " + what + ")", x -> x.result(i, what)));
            }
        }
        for (int w = 0; w < 8; w++) {
            int what = w;
            for (int n = 0; n < 10; n++) {
                int source = n;
                all.add(new Question("of(" + source + ", " + what + ")", x -> x.of(source, what)));
            }
        }
        for (int n = 0; n < 5; n++) {
            int operator = n;
            all.add(new Question("mark(" + operator + ")", x -> x.mark(operator)));
        }
        for (int w = 0; w < 5; w++) {
            int what = w;
            for (int n = 0; n < 101; n++) {
                int i = n;
                all.add(new Question("aside(" + i + ", " + what + ")", x -> x.aside(i, what)));
            }
        }
        for (int w = 0; w < 7; w++) {
            int what = w;
            for (int n = 0; n < 30; n++) {
                int i = n;
                all.add(new Question("passed(" + i + ", " + what + ")", x -> x.passed(i, what)));
            }
            for (int n = 0; n < 5 * 10 * 4; n++) {
                int operator = n / 40;
                int key = n / 4 % 10;
                int i = n % 4;
                all.add(new Question("window(" + operator + ", " + key + ", " + i + ", " + what + ")",
                    x -> x.window(operator, key, i, what)));
            }
        }
        return all;
    }

    /** What may come behind a refused call; each shows something that no question asks for. */
    private static final List<Consumer<LateRows>> BEHIND = List.of(
        x -> { },
        x -> {
            for (int source = 0; source < 10; source++) x.end(source);
        },
        x -> {
            for (int source = 0; source < 10; source++) x.row(source, 0, 1, 77);
            for (int source = 0; source < 10; source++) x.row(source, 1, 2000, 78);
        },
        x -> {
            x.take();
            for (int source = 0; source < 10; source++) x.row(source, 0, 1, 77);
            for (int operator = 0; operator < 5; operator++) x.source(operator);
            x.operator(GAPS, 5, 5, 5, 0);
            for (int operator = 0; operator < 5; operator++) x.pass(operator, true);
        });

    private static void fault(String text) {
        wrong++;
        if (wrong <= 30) System.out.println(text);
    }

    /** Behind what comes before, the call is refused with this answer. */
    private static void refused(String name, long answer, Consumer<LateRows> before, ToLongFunction<LateRows> call) {
        refusals++;
        LateRows first = new LateRows();
        before.accept(first);
        long got = call.applyAsLong(first);
        if (got != answer) fault(name + " answered " + got + ", due is " + answer);
        alike(name, before, before.andThen(call::applyAsLong));
    }

    private static void alike(String name, Consumer<LateRows> one, Consumer<LateRows> other) {
        for (int behind = 0; behind < BEHIND.size(); behind++) {
            for (int from = 0; from < QUESTIONS.size(); from += QUESTIONS_AT_ONCE) {
                LateRows x = new LateRows();
                LateRows y = new LateRows();
                one.andThen(BEHIND.get(behind)).accept(x);
                other.andThen(BEHIND.get(behind)).accept(y);
                for (Question q : QUESTIONS.subList(from, Math.min(from + QUESTIONS_AT_ONCE, QUESTIONS.size()))) {
                    long want = q.ask().applyAsLong(x);
                    long got = q.ask().applyAsLong(y);
                    if (got != want) {
                        fault(name + ", then (" + behind + ") " + q.text() + " answered " + got + ", due is " + want);
                    }
                }
            }
        }
    }

    /** One operator of each kind, told and untold windows, rows aside and dropped, a source that ended, one pass. */
    private static void some(LateRows x) {
        x.operator(FIXED, 10, 1, 100, 1);
        x.operator(SLIDING, 10, 4, 5, 0);
        x.operator(GAPS, 10, 1, 100, 0);
        x.operator(GAPS, 10, 1, 5, 2);
        for (int source = 0; source < 8; source++) x.source(source % 4);
        x.end(4);
        for (int source = 0; source < 4; source++) x.row(source, source, 12, source);
        for (int source = 0; source < 4; source++) x.row(source, source, 31, -source);
        x.bound(3, DROP);
        for (int source = 5; source < 8; source++) x.promise(source, 25);
        for (int source = 0; source < 4; source++) x.promise(source, 25);
        for (int n = 0; n < 4; n++) for (int source = 0; source < 4; source++) x.row(source, source, 12, 10 * n);
        x.pass(1, true);
    }

    /** As many operators and sources as there may be; all sources of operator 1 have ended. */
    private static void many(LateRows x) {
        some(x);
        x.operator(FIXED, 10, 1, 0, 0);
        x.source(4);
        x.source(4);
        x.end(1);
        x.end(5);
    }

    private static void badCalls() {
        int[] outside = {-1, 9, 10, LEAST_INT, GREATEST_INT};
        for (int n : outside) {
            refused("source(" + n + ")", BAD, RefusalTest::some, x -> x.source(n));
            refused("promise(" + n + ", 50)", BAD, RefusalTest::some, x -> x.promise(n, 50));
            refused("end(" + n + ")", BAD, RefusalTest::some, x -> x.end(n));
            refused("row(" + n + ", 0, 12, 1)", BAD, RefusalTest::some, x -> x.row(n, 0, 12, 1));
            refused("pass(" + n + ", true)", BAD, RefusalTest::some, x -> x.pass(n, true));
            refused("mark(" + n + ")", BAD, RefusalTest::some, x -> x.mark(n));
            refused("of(" + n + ", 0)", NONE, RefusalTest::some, x -> x.of(n, 0));
            refused("window(" + n + ", 0, 0, 0)", NONE, RefusalTest::some, x -> x.window(n, 0, 0, 0));
        }
        int[][] operators = {{3, 10, 10, 0, 0}, {FIXED, 0, 1, 0, 0}, {FIXED, 1, 0, 0, 0}, {FIXED, 1, 1, -1, 0},
            {FIXED, 1, 1, 0, 3}, {SLIDING, 4, 5, 0, 0}, {SLIDING, 9, 1, 0, 0}, {GAPS, 1000001, 1, 0, 0}};
        for (int[] o : operators) {
            refused("a wrong operator", BAD, RefusalTest::some, x -> x.operator(o[0], o[1], o[2], o[3], o[4]));
        }
        for (int t : new int[] {-1, 1000000000, LEAST_INT, GREATEST_INT}) {
            refused("promise(0, " + t + ")", BAD, RefusalTest::some, x -> x.promise(0, t));
        }
        for (int key : new int[] {-1, 10, LEAST_INT, GREATEST_INT}) {
            refused("row(0, " + key + ", 12, 1)", BAD, RefusalTest::some, x -> x.row(0, key, 12, 1));
        }
        for (int time : new int[] {-1, 100000001, LEAST_INT, GREATEST_INT}) {
            refused("row(0, 0, " + time + ", 1)", BAD, RefusalTest::some, x -> x.row(0, 0, time, 1));
        }
        for (int n : new int[] {-1, 101, LEAST_INT, GREATEST_INT}) {
            refused("bound(" + n + ", 1)", BAD, RefusalTest::some, x -> x.bound(n, STOP));
        }
        for (int rule : new int[] {-1, 2, LEAST_INT, GREATEST_INT}) {
            refused("bound(50, " + rule + ")", BAD, RefusalTest::some, x -> x.bound(50, rule));
        }
        refused("count(9)", BAD, RefusalTest::some, x -> x.count(9));
        refused("count(-1)", BAD, RefusalTest::some, x -> x.count(-1));
    }

    private static void noCalls() {
        refused("source of an operator that is at its end", NO, RefusalTest::many, x -> x.source(1));
        refused("a lesser promise", NO, RefusalTest::some, x -> x.promise(0, 24));
        refused("a promise of one that has ended", NO, RefusalTest::some, x -> x.promise(4, 50));
        refused("an end of one that has ended", NO, RefusalTest::some, x -> x.end(4));
        refused("a row of one that has ended", NO, RefusalTest::some, x -> x.row(4, 0, 31, 5));
        refused("a late row of one that has ended", NO, RefusalTest::many, x -> x.row(5, 1, 1, 5));
        refused("a lesser bound", NO, RefusalTest::some, x -> x.bound(2, STOP));
        refused("bound 0", NO, RefusalTest::some, x -> x.bound(0, STOP));
    }

    private static void fullCalls() {
        refused("a sixth operator", FULL, RefusalTest::many, x -> x.operator(FIXED, 1, 1, 0, 0));
        refused("an eleventh source", FULL, RefusalTest::many, x -> x.source(0));
        Consumer<LateRows> rows = x -> {
            many(x);
            for (int n = x.count(2); n < 300; n++) x.row(0, 5, 31, n);
        };
        refused("a 301st row", FULL, rows, x -> x.row(0, 5, 31, 1));
        refused("a 301st row, late and told", FULL, rows, x -> x.row(2, 2, 12, 1));
        refused("a 301st row, too late", FULL, rows, x -> x.row(3, 3, 1, 1));
        refused("a 301st row, too late, with STOP", FULL, rows.andThen(x -> x.bound(3, STOP)), x -> x.row(3, 3, 1, 1));
    }

    private static void fullOfWindows() {
        Consumer<LateRows> windows = x -> {
            some(x);
            x.operator(FIXED, 1, 1, 0, 0);
            x.source(4);
            for (int n = x.count(3); n < 120; n++) x.row(8, 9, 1000 + n, n);
        };
        LateRows probe = new LateRows();
        windows.accept(probe);
        if (probe.count(3) != 120) fault("there are " + probe.count(3) + " windows, not 120");
        refused("a 121st fixed window", FULL, windows, x -> x.row(0, 0, 5000, 1));
        refused("a 121st fixed window, late, its promise broken", FULL, windows, x -> x.row(0, 8, 12, 1));
        refused("a 121st sliding window", FULL, windows, x -> x.row(1, 1, 5000, 1));
        refused("a 121st sliding window beside one that is there", FULL, windows, x -> x.row(1, 1, 36, 1));
        refused("a 121st window of gaps", FULL, windows, x -> x.row(2, 2, 5000, 1));
    }

    /** A row that stops its source changes this alone; take undoes it, so that nothing may be left. */
    private static void stopping() {
        Consumer<LateRows> before = x -> {
            some(x);
            x.bound(3, STOP);
        };
        LateRows probe = new LateRows();
        before.accept(probe);
        long got = probe.row(3, 3, 1, 5);
        if (got != NO) fault("a row that stops its source answered " + got);
        if (probe.of(3, 3) != 1) fault("it is not stopped");
        for (int source = 0; source < 8; source++) {
            if (source != 3 && probe.of(source, 3) != 0) fault("source " + source + " is stopped");
        }
        alike("a row that stops its source, taken", before.andThen(LateRows::take),
            before.andThen(x -> x.row(3, 3, 1, 5)).andThen(LateRows::take));
        Consumer<LateRows> stopped = before.andThen(x -> x.row(3, 3, 1, 5));
        refused("a row of a stopped source", NO, stopped, x -> x.row(3, 3, 31, 5));
        refused("a late row of a stopped source", NO, stopped, x -> x.row(3, 3, 1, 5));
    }

    /** Calls that only ask change nothing, whatever they ask for. */
    private static void asking() {
        alike("questions", RefusalTest::some, x -> {
            some(x);
            for (int n = -2; n < 12; n++) {
                x.result(n, n);
                x.aside(n, n);
                x.of(n, n);
                x.mark(n);
                x.window(n, n, n, n);
                x.passed(n, n);
                x.count(n);
            }
        });
    }

    public static void main(String[] args) {
        badCalls();
        noCalls();
        fullCalls();
        fullOfWindows();
        stopping();
        asking();
        System.out.println(wrong == 0 ? refusals + " refused calls change nothing" : wrong + " faults");
        if (wrong != 0) System.exit(1);
    }
}
