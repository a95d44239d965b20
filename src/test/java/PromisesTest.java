import java.util.Arrays;

/** Each promise of the document by hand: ordinary inputs, the edges it names, wrong inputs. */
public final class PromisesTest {
    private static final long NONE = -99999999L;
    private static int wrong = 0;

    private static void due(String what, long got, long want) {
        if (got != want) {
            wrong++;
            System.out.println(what + ": answered " + got + ", due is " + want);
        }
    }

    private static void dueAll(String what, long[] got, long... want) {
        if (!Arrays.equals(got, want)) {
            wrong++;
            System.out.println(what + ": answered " + Arrays.toString(got) + ", due is " + Arrays.toString(want));
        }
    }

    private static long[] result(LateRows x, int i) {
        long[] all = new long[9];
        for (int what = 0; what < 9; what++) all[what] = x.result(i, what);
        return all;
    }

    private static long[] aside(LateRows x, int i) {
        long[] all = new long[5];
        for (int what = 0; what < 5; what++) all[what] = x.aside(i, what);
        return all;
    }

    private static long[] window(LateRows x, int operator, int key, int i) {
        long[] all = new long[7];
        for (int what = 0; what < 7; what++) all[what] = x.window(operator, key, i, what);
        return all;
    }

    private static long[] passed(LateRows x, int i) {
        long[] all = new long[7];
        for (int what = 0; what < 7; what++) all[what] = x.passed(i, what);
        return all;
    }

    private static long[] of(LateRows x, int source) {
        long[] all = new long[8];
        for (int what = 0; what < 8; what++) all[what] = x.of(source, what);
        return all;
    }

    private static long[] counts(LateRows x) {
        long[] all = new long[9];
        for (int what = 0; what < 9; what++) all[what] = x.count(what);
        return all;
    }

    /** An object with one operator (0) and one source of it (0). */
    private static LateRows with(int kind, int size, int step, int lateness, int rule) {
        LateRows x = new LateRows();
        due("operator", x.operator(kind, size, step, lateness, rule), 0);
        due("source", x.source(0), 0);
        return x;
    }

    private static void promise1NewObject() {
        due("BAD", LateRows.BAD, -1);
        due("NO", LateRows.NO, -2);
        due("FULL", LateRows.FULL, -3);
        due("NONE", LateRows.NONE, NONE);
        LateRows x = new LateRows();
        dueAll("1 counts", counts(x), 0, 0, 0, 0, 0, 0, 0, 0, 0);
        due("1 source", x.source(0), -1);
        due("1 promise", x.promise(0, 0), -1);
        due("1 end", x.end(0), -1);
        due("1 row", x.row(0, 0, 0, 0), -1);
        due("1 result", x.result(0, 0), NONE);
        due("1 aside", x.aside(0, 0), NONE);
        due("1 take", x.take(), 0);
        due("1 bound", x.bound(100, 0), 0);
        due("1 of", x.of(0, 0), NONE);
        due("1 mark", x.mark(0), -1);
        due("1 window", x.window(0, 0, 0, 0), NONE);
        due("1 pass", x.pass(0, true), -1);
        due("1 passed", x.passed(0, 0), NONE);
    }

    private static void promise2Operator() {
        LateRows x = new LateRows();
        int[][] bad = {
            {-1, 5, 5, 0, 0}, {3, 5, 5, 0, 0}, {0, 5, 5, 0, -1}, {0, 5, 5, 0, 3},
            {0, 0, 5, 0, 0}, {0, 1000001, 5, 0, 0}, {0, 5, 0, 0, 0}, {0, 5, 1000001, 0, 0}, {2, 5, 0, 0, 0},
            {0, 5, 5, -1, 0}, {0, 5, 5, 1000001, 0}, {1, 5, 6, 0, 0}, {1, 17, 2, 0, 0},
            {1, 1000000, 124999, 0, 0}, {0, Integer.MIN_VALUE, 1, 0, 0}, {0, 5, Integer.MAX_VALUE, 0, 0},
        };
        for (int[] b : bad) due("2 " + Arrays.toString(b), x.operator(b[0], b[1], b[2], b[3], b[4]), -1);
        due("2 none yet", x.count(0), 0);
        due("2 step counts for nothing", x.operator(0, 5, 1000000, 1000000, 2), 0);
        due("2 size 8 steps", x.operator(1, 16, 2, 0, 0), 1);
        due("2 size one step", x.operator(1, 1000000, 1000000, 0, 1), 2);
        due("2 gaps of far more than 8 steps", x.operator(2, 1000000, 1, 0, 1), 3);
        due("2 size 8 long steps", x.operator(1, 1000000, 125000, 0, 1), 4);
        due("2 full", x.operator(0, 1, 1, 0, 0), -3);
        due("2 BAD before FULL", x.operator(3, 1, 1, 0, 0), -1);
        due("2 five", x.count(0), 5);
    }

    private static void promise3Source() {
        LateRows x = with(0, 10, 1, 0, 0);
        due("3 no operator", x.source(-1), -1);
        due("3 no operator", x.source(1), -1);
        due("3 to 7", x.promise(0, 7), 0);
        due("3 second", x.source(0), 1);
        due("3 its promise", x.of(1, 1), 0);
        due("3 the mark stays", x.mark(0), 7);
        due("3 a lesser promise leaves the mark", x.promise(1, 3), 0);
        due("3 the mark stays", x.mark(0), 7);
        for (int i = 2; i < 10; i++) due("3 more", x.source(0), i);
        due("3 full", x.source(0), -3);
        LateRows y = with(0, 10, 1, 0, 0);
        due("3 all ended", y.end(0), 0);
        due("3 no more of it", y.source(0), -2);
        due("3 another", y.operator(0, 1, 1, 0, 0), 1);
        for (int i = 1; i < 10; i++) due("3 of another", y.source(1), i);
        due("3 NO before FULL", y.source(0), -2);
        due("3 BAD before FULL", y.source(2), -1);
        due("3 ten", y.count(1), 10);
    }

    private static void promise4Promise() {
        LateRows x = with(0, 10, 1, 0, 0);
        x.source(0);
        x.row(0, 1, 5, 50);
        x.row(0, 0, 5, 40);
        x.row(0, 0, 15, 30);
        due("4 no source", x.promise(2, 1), -1);
        due("4 t", x.promise(0, -1), -1);
        due("4 t", x.promise(0, 1000000000), -1);
        due("4 the other holds the mark", x.promise(0, 999999999), 0);
        due("4 mark", x.mark(0), 0);
        due("4 just below the end", x.promise(1, 9), 0);
        due("4 at the end", x.promise(1, 10), 2);
        due("4 once more", x.promise(1, 10), 0);
        dueAll("4 by keys", result(x, 0), 1, 0, 0, 0, 10, 1, 40, 40, 40);
        dueAll("4 by keys", result(x, 1), 1, 0, 1, 0, 10, 1, 50, 50, 50);
        due("4 closed ones are gone", x.count(3), 1);
        due("4 back", x.promise(1, 9), -2);
        due("4 ends", x.end(1), 1);
        due("4 mark", x.mark(0), 999999999);
        due("4 ended", x.promise(1, 999999999), -2);
        due("4 BAD before NO", x.promise(1, -1), -1);
    }

    private static void promise4OrderOfTelling() {
        LateRows x = with(1, 10, 5, 0, 0);
        x.row(0, 1, 0, 1);
        x.row(0, 0, 7, 2);
        due("4 all pass", x.promise(0, 15), 4);
        dueAll("4 end 5", result(x, 0), 1, 0, 1, -5, 5, 1, 1, 1, 1);
        dueAll("4 end 10 key 0", result(x, 1), 1, 0, 0, 0, 10, 1, 2, 2, 2);
        dueAll("4 end 10 key 1", result(x, 2), 1, 0, 1, 0, 10, 1, 1, 1, 1);
        dueAll("4 end 15", result(x, 3), 1, 0, 0, 5, 15, 1, 2, 2, 2);
    }

    private static void promise4TellingBeforeGoing() {
        LateRows x = with(0, 10, 1, 10, 1);
        x.row(0, 0, 5, 1);
        x.row(0, 1, 5, 3);
        x.row(0, 0, 15, 7);
        due("4 first told", x.promise(0, 10), 2);
        x.row(0, 1, 6, 4);
        x.row(0, 0, 6, 2);
        due("4 nothing at once", x.count(5), 2);
        due("4 not yet closed", x.promise(0, 19), 0);
        due("4 told, then those that go", x.promise(0, 20), 5);
        dueAll("4 told first", result(x, 2), 1, 0, 0, 10, 20, 1, 7, 7, 7);
        dueAll("4 taken back", result(x, 3), -1, 0, 0, 0, 10, 1, 1, 1, 1);
        dueAll("4 told anew", result(x, 4), 1, 0, 0, 0, 10, 2, 3, 1, 2);
        dueAll("4 taken back", result(x, 5), -1, 0, 1, 0, 10, 1, 3, 3, 3);
        dueAll("4 told anew", result(x, 6), 1, 0, 1, 0, 10, 2, 7, 3, 4);
        due("4 unchanged ones go in silence", x.promise(0, 30), 0);
        due("4 gone", x.count(3), 0);
    }

    private static void promise5End() {
        LateRows x = with(0, 10, 1, 1000000, 1);
        x.source(0);
        x.row(0, 0, 100000000, 8);
        due("5 no source", x.end(-1), -1);
        due("5 no source", x.end(2), -1);
        due("5 promise", x.promise(1, 5), 0);
        due("5 the other is left", x.end(0), 0);
        due("5 mark", x.mark(0), 5);
        due("5 again", x.end(0), -2);
        due("5 ended", x.of(0, 2), 1);
        due("5 not ended", x.of(1, 2), 0);
        due("5 the last", x.end(1), 1);
        due("5 mark of all ended", x.mark(0), 1000000000);
        dueAll("5 result", result(x, 0), 1, 0, 0, 100000000, 100000010, 1, 8, 8, 8);
        due("5 gone", x.count(3), 0);
        due("5 no row of it", x.row(1, 0, 5, 5), -2);
        due("5 no promise of it", x.promise(1, 999999999), -2);
    }

    private static void promise6WrongRows() {
        LateRows x = with(0, 10, 1, 0, 0);
        due("6 source", x.row(1, 0, 0, 0), -1);
        due("6 source", x.row(-1, 0, 0, 0), -1);
        due("6 key", x.row(0, -1, 0, 0), -1);
        due("6 key", x.row(0, 10, 0, 0), -1);
        due("6 time", x.row(0, 0, -1, 0), -1);
        due("6 time", x.row(0, 0, 100000001, 0), -1);
        due("6 none came", x.count(2), 0);
        due("6 edges", x.row(0, 9, 100000000, Integer.MIN_VALUE), 1);
        due("6 edges", x.row(0, 0, 0, Integer.MAX_VALUE), 1);
        dueAll("6 edges", window(x, 0, 9, 0), 100000000, 100000010, 0, 1, -2147483648L, -2147483648L, -2147483648L);
        x.source(0);
        x.end(1);
        due("6 ended", x.row(1, 0, 0, 0), -2);
        due("6 BAD before NO", x.row(1, 10, 0, 0), -1);
    }

    private static void promise6FixedLateness() {
        LateRows x = with(0, 10, 1, 5, 0);
        x.row(0, 0, 3, 4);
        due("6 told", x.promise(0, 14), 1);
        due("6 late, not closed", x.row(0, 0, 9, -6), 1);
        dueAll("6 taken back", result(x, 1), -1, 0, 0, 0, 10, 1, 4, 4, 4);
        dueAll("6 told anew", result(x, 2), 1, 0, 0, 0, 10, 2, -2, -6, 4);
        due("6 a new window behind the mark", x.row(0, 2, 0, 7), 1);
        dueAll("6 told behind the row", result(x, 3), 1, 0, 2, 0, 10, 1, 7, 7, 7);
        due("6 to the edge", x.promise(0, 15), 0);
        due("6 closed", x.row(0, 0, 9, 1), 0);
        dueAll("6 aside for 1", aside(x, 0), 0, 0, 9, 1, 1);
        due("6 in the next window", x.row(0, 0, 10, 1), 1);
        due("6 nothing told", x.count(5), 4);
        dueAll("6 broken", of(x, 0), 0, 15, 0, 0, 4, 1, 4, 9);
    }

    private static void promise6RuleTwo() {
        LateRows x = with(0, 10, 1, 5, 2);
        x.promise(0, 9);
        due("6 before the end", x.row(0, 0, 0, 1), 1);
        x.promise(0, 10);
        due("6 end is the mark", x.row(0, 0, 1, 2), 0);
        due("6 no window, but the mark is there", x.row(0, 1, 1, 3), 0);
        x.promise(0, 15);
        due("6 closed", x.row(0, 1, 1, 4), 0);
        dueAll("6 for 2", aside(x, 0), 0, 0, 1, 2, 2);
        dueAll("6 for 2", aside(x, 1), 0, 1, 1, 3, 2);
        dueAll("6 for 1", aside(x, 2), 0, 1, 1, 4, 1);
        due("6 one telling", x.count(5), 1);
    }

    private static void promise6Sliding() {
        LateRows x = with(1, 10, 4, 0, 0);
        due("6 begins of any sign", x.row(0, 0, 1, 5), 1);
        due("6 three windows", x.count(3), 3);
        dueAll("6 first", window(x, 0, 0, 0), -8, 2, 0, 1, 5, 5, 5);
        dueAll("6 last", window(x, 0, 0, 2), 0, 10, 0, 1, 5, 5, 5);
        due("6 told", x.promise(0, 2), 1);
        due("6 into those that are not closed", x.row(0, 0, 1, 6), 1);
        due("6 two windows", x.count(3), 2);
        due("6 nothing told", x.count(5), 1);
        due("6 all but the last closed", x.promise(0, 9), 1);
        due("6 comes into the last", x.row(0, 0, 1, 7), 1);
        dueAll("6 last", window(x, 0, 0, 0), 0, 10, 0, 3, 18, 5, 7);
        due("6 to its end", x.promise(0, 10), 1);
        due("6 all closed", x.row(0, 0, 1, 8), 0);
        due("6 for 1", x.aside(0, 4), 1);

        LateRows y = with(1, 10, 4, 6, 0);
        y.row(0, 0, 1, 5);
        due("6 two told", y.promise(0, 7), 2);
        due("6 late", y.row(0, 0, 1, 6), 1);
        dueAll("6 by begins", result(y, 2), -1, 0, 0, -8, 2, 1, 5, 5, 5);
        dueAll("6 by begins", result(y, 3), 1, 0, 0, -8, 2, 2, 11, 5, 6);
        dueAll("6 by begins", result(y, 4), -1, 0, 0, -4, 6, 1, 5, 5, 5);
        dueAll("6 by begins", result(y, 5), 1, 0, 0, -4, 6, 2, 11, 5, 6);
        due("6 no more", y.count(5), 6);

        LateRows z = with(1, 10, 4, 3, 2);
        z.promise(0, 4);
        due("6 one end passed, not closed", z.row(0, 0, 1, 6), 0);
        due("6 for 2", z.aside(0, 4), 2);
        z.promise(0, 5);
        due("6 that one is closed", z.row(0, 0, 1, 6), 1);
        due("6 two windows", z.count(3), 2);
    }

    private static void promise6Gaps() {
        LateRows x = with(2, 5, 1, 10, 0);
        x.row(0, 0, 10, 1);
        x.row(0, 0, 15, 2);
        due("6 side by side is not joined", x.count(3), 2);
        x.row(0, 1, 14, 9);
        due("6 another key is not joined", x.count(3), 3);
        due("6 the first is told", x.promise(0, 15), 1);
        due("6 joins both", x.row(0, 0, 14, 3), 1);
        due("6 two are one", x.count(3), 2);
        dueAll("6 taken back", result(x, 1), -1, 0, 0, 10, 15, 1, 1, 1, 1);
        due("6 its end is above the mark", x.count(5), 2);
        dueAll("6 joined", window(x, 0, 0, 0), 10, 20, 0, 3, 6, 1, 3);
        due("6 both told", x.promise(0, 20), 2);
        due("6 within", x.row(0, 0, 12, -4), 1);
        dueAll("6 taken back", result(x, 4), -1, 0, 0, 10, 20, 3, 6, 1, 3);
        dueAll("6 told anew", result(x, 5), 1, 0, 0, 10, 20, 4, 2, -4, 3);
        due("6 another begin", x.row(0, 0, 8, 5), 1);
        dueAll("6 taken back", result(x, 6), -1, 0, 0, 10, 20, 4, 2, -4, 3);
        dueAll("6 told", result(x, 7), 1, 0, 0, 8, 20, 5, 7, -4, 5);
        x.promise(0, 29);
        due("6 alone it would be closed, joined it is not", x.row(0, 0, 13, 1), 1);
        due("6 alone, closed", x.row(0, 2, 13, 1), 0);
        due("6 for 1", x.aside(0, 4), 1);

        LateRows y = with(2, 5, 1, 10, 0);
        y.row(0, 0, 20, 1);
        y.row(0, 0, 15, 2);
        due("6 side by side, the later first", y.count(3), 2);
        dueAll("6 the earlier", window(y, 0, 0, 0), 15, 20, 0, 1, 2, 2, 2);
        y.row(0, 0, 16, 3);
        dueAll("6 one time in common", window(y, 0, 0, 0), 15, 25, 0, 3, 6, 1, 3);
    }

    private static void promise6GapsJoinedByBegins() {
        LateRows x = with(2, 10, 1, 100, 1);
        x.row(0, 3, 20, 2);
        x.row(0, 3, 5, 1);
        due("6 both told", x.promise(0, 30), 2);
        due("6 grows", x.row(0, 3, 6, 7), 1);
        dueAll("6 taken back at once", result(x, 2), -1, 0, 3, 5, 15, 1, 1, 1, 1);
        dueAll("6 told at once", result(x, 3), 1, 0, 3, 5, 16, 2, 8, 1, 7);
        due("6 grows beyond the mark", x.row(0, 3, 22, 9), 1);
        dueAll("6 taken back at once", result(x, 4), -1, 0, 3, 20, 30, 1, 2, 2, 2);
        due("6 not told", x.count(5), 5);
        dueAll("6 the other", window(x, 0, 3, 1), 20, 32, 0, 2, 11, 2, 9);
        due("6 between them", x.row(0, 3, 13, 4), 1);
        dueAll("6 taken back", result(x, 5), -1, 0, 3, 5, 16, 2, 8, 1, 7);
        dueAll("6 one window", window(x, 0, 3, 0), 5, 32, 0, 5, 23, 1, 9);
        due("6 one window", x.count(3), 1);

        LateRows y = with(2, 10, 1, 100, 0);
        y.row(0, 0, 30, 3);
        y.row(0, 0, 15, 2);
        y.row(0, 0, 0, 1);
        y.promise(0, 50);
        due("6 three told", y.count(5), 3);
        due("6 joins two", y.row(0, 0, 7, 4), 1);
        dueAll("6 by begins", result(y, 3), -1, 0, 0, 0, 10, 1, 1, 1, 1);
        dueAll("6 by begins", result(y, 4), -1, 0, 0, 15, 25, 1, 2, 2, 2);
        dueAll("6 then the new one", result(y, 5), 1, 0, 0, 0, 25, 3, 7, 1, 4);
        due("6 no more", y.count(5), 6);
    }

    private static void promise6GapsRuleTwo() {
        LateRows x = with(2, 5, 1, 10, 2);
        x.row(0, 0, 10, 1);
        x.promise(0, 15);
        due("6 joined one is told", x.row(0, 0, 14, 1), 0);
        due("6 for 2", x.aside(0, 4), 2);
        due("6 not joined, end above the mark", x.row(0, 0, 15, 1), 1);
        due("6 end is the mark", x.row(0, 1, 10, 1), 0);
        due("6 for 2", x.aside(1, 4), 2);
        due("6 end above the mark", x.row(0, 1, 11, 1), 1);
        due("6 closed", x.row(0, 1, 0, 1), 0);
        due("6 for 1", x.aside(2, 4), 1);
        due("6 joins what is told and what is not", x.row(0, 0, 13, 1), 0);
    }

    private static void promise6Room() {
        LateRows x = with(0, 1, 1, 0, 0);
        for (int i = 0; i < 300; i++) due("6 row " + i, x.row(0, 0, i % 100, i), 1);
        due("6 300 came", x.row(0, 0, 0, 0), -3);
        x.bound(0, 1);
        x.promise(0, 1000);
        due("6 300 came, before STOPPED", x.row(0, 0, 0, 0), -3);
        due("6 not stopped by that", x.of(0, 3), 0);
        due("6 BAD before FULL", x.row(0, 0, -1, 0), -1);
        x.end(0);
        due("6 NO before FULL", x.row(0, 0, 0, 0), -2);

        LateRows y = with(1, 8, 1, 0, 0);
        y.operator(2, 10, 1, 0, 0);
        y.source(1);
        for (int i = 0; i < 14; i++) due("6 eight windows", y.row(0, i % 10, 1000 + 100 * i, 0), 1);
        for (int i = 0; i < 6; i++) due("6 one window", y.row(1, 0, 15 * i, 0), 1);
        due("6 118", y.count(3), 118);
        due("6 three more do not fit", y.row(0, 0, 1003, 0), -3);
        due("6 two more fit", y.row(0, 0, 1002, 0), 1);
        due("6 120", y.count(3), 120);
        due("6 into those that are there", y.row(0, 0, 1002, 0), 1);
        due("6 no more", y.row(1, 1, 5, 0), -3);
        due("6 joined fits", y.row(1, 0, 8, 0), 1);
        due("6 one less", y.count(3), 119);
        due("6 came", y.count(2), 23);
        due("6 used", y.of(1, 4), 7);
        y.promise(1, 200);
        due("6 gone", y.count(3), 114);
        due("6 aside needs no window", y.row(1, 0, 5, 0), 0);

        LateRows z = with(1, 8, 1, 0, 0);
        z.operator(0, 1, 1, 0, 0);
        z.source(1);
        for (int i = 0; i < 118; i++) z.row(1, 0, i, 0);
        due("6 six of the eight become closed", z.promise(0, 1006), 0);
        due("6 eight do not fit", z.row(0, 0, 1006, 0), -3);
        due("6 closed ones need no room", z.row(0, 0, 1000, 0), 1);
        due("6 120", z.count(3), 120);
    }

    private static void promise7Result() {
        LateRows x = with(0, 1, 1, 1000000, 0);
        x.promise(0, 500);
        due("7 made behind the mark", x.row(0, 4, 7, 1), 1);
        for (int i = 0; i < 200; i++) x.row(0, 4, 7, Integer.MAX_VALUE);
        due("7 in all", x.count(5), 401);
        due("7 kept", x.count(4), 400);
        dueAll("7 the eldest kept", result(x, 0), -1, 0, 4, 7, 8, 1, 1, 1, 1);
        long sum = 1 + 200L * Integer.MAX_VALUE;
        dueAll("7 the latest", result(x, 399), 1, 0, 4, 7, 8, 201, sum, 1, Integer.MAX_VALUE);
        due("7 none such", x.result(400, 0), NONE);
        due("7 none such", x.result(-1, 0), NONE);
        due("7 none such", x.result(Integer.MAX_VALUE, 0), NONE);
        due("7 what", x.result(0, 9), NONE);
        due("7 what", x.result(0, -1), NONE);
        due("7 what", x.result(0, Integer.MIN_VALUE), NONE);
    }

    private static void promise8Aside() {
        LateRows x = with(0, 1, 1, 0, 0);
        x.promise(0, 500);
        x.source(0);
        due("8 first", x.row(1, 3, 7, -99999999), 0);
        due("8 second", x.row(0, 4, 8, 5), 0);
        dueAll("8 in order", aside(x, 0), 1, 3, 7, NONE, 1);
        dueAll("8 in order", aside(x, 1), 0, 4, 8, 5, 1);
        due("8 none such", x.aside(2, 0), NONE);
        due("8 none such", x.aside(-1, 0), NONE);
        due("8 what", x.aside(0, 5), NONE);
        due("8 what", x.aside(0, -1), NONE);
        dueAll("8 only the one that broke its promise", of(x, 0), 0, 500, 0, 0, 0, 1, 1, 8);
        dueAll("8 judged by the mark", of(x, 1), 0, 0, 0, 0, 0, 1, 0, NONE);
        for (int i = 0; i < 100; i++) x.row(0, 0, 9, i);
        due("8 bound at first", x.count(6), 100);
        due("8 dropped", x.count(7), 2);
        due("8 the eldest were dropped", x.aside(0, 3), 0);
        due("8 the latest", x.aside(99, 3), 99);
        due("8 no more", x.aside(100, 3), NONE);
        due("8 in all", x.of(0, 5), 101);
    }

    private static void promise9Take() {
        LateRows x = with(0, 1, 1, 0, 0);
        x.source(0);
        x.promise(0, 500);
        x.promise(1, 500);
        x.bound(2, 1);
        due("9 fits", x.row(0, 0, 1, 1), 0);
        due("9 fits", x.row(0, 0, 1, 2), 0);
        due("9 stops", x.row(0, 0, 1, 3), -2);
        dueAll("9 this alone changes", of(x, 0), 0, 500, 0, 1, 0, 2, 2, 1);
        due("9 it did not come", x.count(2), 2);
        due("9 nor a row in time", x.row(0, 0, 600, 3), -2);
        due("9 the other is not stopped", x.row(1, 0, 600, 3), 1);
        due("9 a greater bound changes nothing", x.bound(100, 0), 2);
        due("9 still stopped", x.row(0, 0, 600, 3), -2);
        due("9 a promise is heard", x.promise(0, 501), 0);
        due("9 taken", x.take(), 2);
        due("9 nothing aside", x.aside(0, 0), NONE);
        due("9 no more", x.take(), 0);
        due("9 not stopped", x.of(0, 3), 0);
        due("9 comes", x.row(0, 0, 600, 3), 1);
        due("9 aside", x.row(0, 2, 1, 4), 0);
        dueAll("9 aside again", aside(x, 0), 0, 2, 1, 4, 1);
        due("9 none dropped", x.count(7), 0);
    }

    private static void promise10Bound() {
        LateRows x = with(0, 1, 1, 0, 0);
        x.promise(0, 500);
        due("10 n", x.bound(-1, 0), -1);
        due("10 n", x.bound(101, 0), -1);
        due("10 rule", x.bound(1, -1), -1);
        due("10 rule", x.bound(1, 2), -1);
        due("10 two", x.bound(2, 0), 0);
        x.row(0, 0, 1, 1);
        x.row(0, 0, 1, 2);
        due("10 more are aside", x.bound(1, 1), -2);
        due("10 BAD before NO", x.bound(1, 2), -1);
        due("10 as many are aside", x.bound(2, 0), 2);
        due("10 the eldest is dropped", x.row(0, 0, 1, 3), 0);
        due("10 two", x.count(6), 2);
        due("10 second", x.aside(0, 3), 2);
        due("10 third", x.aside(1, 3), 3);
        due("10 taken", x.take(), 2);
        due("10 none", x.bound(0, 0), 0);
        due("10 the row itself is dropped", x.row(0, 0, 1, 4), 0);
        due("10 none aside", x.count(6), 0);
        due("10 dropped", x.count(7), 2);
        due("10 it came", x.count(2), 4);
        due("10 aside in all", x.of(0, 5), 4);
        due("10 stop at none", x.bound(0, 1), 0);
        due("10 stops", x.row(0, 0, 1, 5), -2);
        due("10 stopped", x.of(0, 3), 1);
        due("10 taken", x.take(), 0);
        due("10 not stopped", x.of(0, 3), 0);
    }

    private static void promise11Of() {
        LateRows x = with(0, 10, 1, 0, 0);
        x.operator(2, 10, 1, 0, 0);
        x.source(1);
        dueAll("11 new", of(x, 1), 1, 0, 0, 0, 0, 0, 0, NONE);
        x.promise(1, 40);
        x.row(1, 0, 40, 0);
        due("11 not broken", x.of(1, 6), 0);
        x.row(1, 0, 39, 0);
        x.row(1, 0, 3, 0);
        x.end(1);
        dueAll("11 broken twice", of(x, 1), 1, 40, 1, 0, 2, 1, 2, 39);
        dueAll("11 the other", of(x, 0), 0, 0, 0, 0, 0, 0, 0, NONE);
        due("11 none such", x.of(2, 0), NONE);
        due("11 none such", x.of(-1, 0), NONE);
        due("11 what", x.of(0, 8), NONE);
        due("11 what", x.of(0, -1), NONE);
    }

    private static void promise12Mark() {
        LateRows x = with(0, 10, 1, 0, 0);
        x.operator(0, 10, 1, 0, 0);
        due("12 new", x.mark(0), 0);
        x.source(0);
        x.promise(0, 8);
        due("12 the least", x.mark(0), 0);
        x.promise(1, 5);
        due("12 the least", x.mark(0), 5);
        x.end(1);
        due("12 of those that have not ended", x.mark(0), 8);
        due("12 another's stays", x.mark(1), 0);
        x.end(0);
        due("12 all ended", x.mark(0), 1000000000);
        due("12 no source, none ended", x.mark(1), 0);
        due("12 none such", x.mark(2), -1);
        due("12 none such", x.mark(-1), -1);
    }

    private static void promise13Window() {
        LateRows x = with(0, 10, 1, 20, 0);
        x.operator(0, 10, 1, 0, 0);
        x.source(1);
        x.row(1, 4, 5, 77);
        x.row(0, 4, 25, 1);
        x.row(0, 4, 5, 2);
        x.row(0, 3, 45, 3);
        x.row(0, 4, 25, -6);
        x.promise(0, 10);
        dueAll("13 by begins", window(x, 0, 4, 0), 0, 10, 1, 1, 2, 2, 2);
        dueAll("13 by begins", window(x, 0, 4, 1), 20, 30, 0, 2, -5, -6, 1);
        dueAll("13 another operator", window(x, 1, 4, 0), 0, 10, 0, 1, 77, 77, 77);
        LateRows y = with(1, 1000000, 500000, 0, 0);
        y.row(0, 0, 0, 1);
        dueAll("13 the least begins", window(y, 0, 0, 0), -500000, 500000, 0, 1, 1, 1, 1);
        dueAll("13 the least begins", window(y, 0, 0, 1), 0, 1000000, 0, 1, 1, 1, 1);
        y.operator(1, 1000000, 142857, 0, 0);
        y.source(1);
        y.row(1, 0, 0, 1);
        due("13 the least begin of all", y.window(1, 0, 0, 0), -999999);
        due("13 i", x.window(0, 4, 2, 0), NONE);
        due("13 i", x.window(0, 4, -1, 0), NONE);
        due("13 i", x.window(0, 4, Integer.MAX_VALUE, 0), NONE);
        due("13 key", x.window(0, 5, 0, 0), NONE);
        due("13 key", x.window(0, -1, 0, 0), NONE);
        due("13 key", x.window(0, 10, 0, 0), NONE);
        due("13 operator", x.window(2, 4, 0, 0), NONE);
        due("13 operator", x.window(-1, 4, 0, 0), NONE);
        due("13 what", x.window(0, 4, 0, 7), NONE);
        due("13 what", x.window(0, 4, 0, -1), NONE);
    }

    private static void promise14Pass() {
        LateRows x = with(1, 10, 5, 0, 0);
        due("14 none yet", x.count(8), 0);
        due("14 none yet", x.passed(0, 0), NONE);
        due("14 no operator", x.pass(1, false), -1);
        due("14 none yet", x.passed(0, 0), NONE);
        x.operator(2, 10, 1, 0, 0);
        x.source(1);
        x.row(0, 2, 12, 1);
        x.row(0, 1, 3, 2);
        x.promise(0, 15);
        due("14 comes into one of its two", x.row(0, 2, 13, 4), 1);
        due("14 none of these is too late in one pass", x.pass(0, false), 4);
        dueAll("14 key 1", passed(x, 0), 1, -5, 5, 1, 2, 2, 2);
        dueAll("14 key 1", passed(x, 1), 1, 0, 10, 1, 2, 2, 2);
        dueAll("14 key 2", passed(x, 2), 2, 5, 15, 2, 5, 1, 4);
        dueAll("14 key 2", passed(x, 3), 2, 10, 20, 2, 5, 1, 4);
        x.bound(0, 0);
        due("14 dropped", x.row(0, 1, 4, 8), 0);
        due("14 without it", x.pass(0, false), 4);
        due("14 without it", x.passed(0, 3), 1);
        due("14 with it", x.pass(0, true), 4);
        dueAll("14 with it", passed(x, 0), 1, -5, 5, 2, 10, 2, 8);
        due("14 no operator", x.pass(2, true), -1);
        due("14 no operator", x.pass(-1, true), -1);
        due("14 the latest stays", x.count(8), 4);
        due("14 of no rows", x.pass(1, true), 0);
        due("14 of no rows", x.count(8), 0);
        due("14 of no rows", x.passed(0, 0), NONE);
    }

    private static void promise14PassOfGaps() {
        LateRows x = with(2, 10, 1, 0, 0);
        x.row(0, 0, 20, 1);
        x.row(0, 0, 30, 2);
        due("14 side by side", x.pass(0, false), 2);
        x.promise(0, 35);
        due("14 told and gone", x.count(3), 1);
        due("14 joins the second alone", x.row(0, 0, 29, 4), 1);
        due("14 all in one", x.pass(0, false), 1);
        dueAll("14 all in one", passed(x, 0), 0, 20, 40, 3, 7, 1, 4);
        due("14 aside", x.row(0, 0, 5, 8), 0);
        due("14 taken", x.take(), 1);
        due("14 with it", x.pass(0, true), 2);
        dueAll("14 with it", passed(x, 0), 0, 5, 15, 1, 8, 8, 8);
    }

    private static void promise15Passed() {
        LateRows x = with(1, 8, 1, 0, 0);
        for (int i = 0; i < 15; i++) x.row(0, i % 10, 100 * i, i);
        x.promise(0, 5000);
        for (int i = 0; i < 285; i++) x.row(0, i % 10, 10 * i, i);
        due("15 came", x.count(2), 300);
        due("15 used", x.pass(0, false), 120);
        // each of the first rows lies upon one of the later ones (100 i = 10 (10 i), another key but for i = 0, 10)
        due("15 the most", x.pass(0, true), 8 * (300 - 2));
        dueAll("15 first", passed(x, 0), 0, -7, 1, 2, 0, 0, 0);
        due("15 last is there", x.passed(2383, 0), 9);
        due("15 none such", x.passed(2384, 0), NONE);
        due("15 none such", x.passed(-1, 0), NONE);
        due("15 what", x.passed(0, 7), NONE);
        due("15 what", x.passed(0, -1), NONE);
    }

    private static void promise16Count() {
        LateRows x = with(0, 10, 1, 0, 0);
        x.row(0, 0, 5, 1);
        x.row(0, 0, 15, 1);
        x.promise(0, 10);
        x.bound(1, 0);
        x.row(0, 0, 5, 1);
        x.row(0, 0, 6, 1);
        x.pass(0, false);
        dueAll("16 all", counts(x), 1, 1, 4, 1, 1, 1, 1, 1, 2);
        due("16 what", x.count(9), -1);
        due("16 what", x.count(-1), -1);
    }

    public static void main(String[] args) {
        promise1NewObject();
        promise2Operator();
        promise3Source();
        promise4Promise();
        promise4OrderOfTelling();
        promise4TellingBeforeGoing();
        promise5End();
        promise6WrongRows();
        promise6FixedLateness();
        promise6RuleTwo();
        promise6Sliding();
        promise6Gaps();
        promise6GapsJoinedByBegins();
        promise6GapsRuleTwo();
        promise6Room();
        promise7Result();
        promise8Aside();
        promise9Take();
        promise10Bound();
        promise11Of();
        promise12Mark();
        promise13Window();
        promise14Pass();
        promise14PassOfGaps();
        promise15Passed();
        promise16Count();
        System.out.println(wrong == 0 ? "all answers are as due" : wrong + " answers are not as due");
        if (wrong != 0) System.exit(1);
    }
}
