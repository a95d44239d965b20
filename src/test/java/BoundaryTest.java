import java.util.ArrayList;
import java.util.Arrays;
import java.util.List;

/** Each sentence of the document that names a boundary case, in the document's order, with a test of its own. */
public final class BoundaryTest {
    private static final int BAD = -1, NO = -2, FULL = -3, NONE = -99999999;
    private static final int FIXED = 0, SLIDING = 1, GAPS = 2;
    private static final int DROP = 0, STOP = 1;
    private static final int LEAST_INT = Integer.MIN_VALUE, GREATEST_INT = Integer.MAX_VALUE;
    private static int wrong = 0;
    private static String sentence = "";
    private static int asked = 0;

    /** What is asked from here on shows whether this sentence holds. */
    private static void sentence(String text) {
        sentence = text;
        asked = 0;
    }

    private static void fault(String text) {
        wrong++;
        System.out.println("\"" + sentence + "\", answer " + asked + ": " + text);
    }

    private static void due(long got, long want) {
        asked++;
        if (got != want) fault("answered " + got + ", due is " + want);
    }

    private static void dueAll(long[] got, long... want) {
        asked++;
        if (!Arrays.equals(got, want)) {
            fault("answered " + Arrays.toString(got) + ", due is " + Arrays.toString(want));
        }
    }

    /** An object with counted calls: what it answers behind the 512th is free, so that no test may ask for it. */
    private static final class Rows {
        private final LateRows it = new LateRows();
        private int calls = 0;

        private LateRows next() {
            calls++;
            if (calls == 513) fault("the test makes more than 512 calls");
            return it;
        }

        int operator(int kind, int size, int step, int lateness, int rule) {
            return next().operator(kind, size, step, lateness, rule);
        }

        int source(int operator) {
            return next().source(operator);
        }

        int promise(int source, int t) {
            return next().promise(source, t);
        }

        int end(int source) {
            return next().end(source);
        }

        int row(int source, int key, int time, int v) {
            return next().row(source, key, time, v);
        }

        long result(int i, int what) {
            return next().result(i, what);
        }

        int aside(int i, int what) {
            return next().aside(i, what);
        }

        int take() {
            return next().take();
        }

        int bound(int n, int rule) {
            return next().bound(n, rule);
        }

        int of(int source, int what) {
            return next().of(source, what);
        }

        int mark(int operator) {
            return next().mark(operator);
        }

        long window(int operator, int key, int i, int what) {
            return next().window(operator, key, i, what);
        }

        int pass(int operator, boolean all) {
            return next().pass(operator, all);
        }

        long passed(int i, int what) {
            return next().passed(i, what);
        }

        int count(int what) {
            return next().count(what);
        }

        long[] result(int i) {
            long[] all = new long[9];
            for (int what = 0; what < 9; what++) all[what] = result(i, what);
            return all;
        }

        long[] aside(int i) {
            long[] all = new long[5];
            for (int what = 0; what < 5; what++) all[what] = aside(i, what);
            return all;
        }

        long[] of(int source) {
            long[] all = new long[8];
            for (int what = 0; what < 8; what++) all[what] = of(source, what);
            return all;
        }

        long[] window(int operator, int key, int i) {
            long[] all = new long[7];
            for (int what = 0; what < 7; what++) all[what] = window(operator, key, i, what);
            return all;
        }

        long[] passed(int i) {
            long[] all = new long[7];
            for (int what = 0; what < 7; what++) all[what] = passed(i, what);
            return all;
        }

        long[] counts() {
            long[] all = new long[9];
            for (int what = 0; what < 9; what++) all[what] = count(what);
            return all;
        }

        /** The begins and ends of all windows of an operator and key, in their order. */
        long[] spans(int operator, int key) {
            List<Long> all = new ArrayList<>();
            for (int i = 0; window(operator, key, i, 0) != NONE && i < 130; i++) {
                all.add(window(operator, key, i, 0));
                all.add(window(operator, key, i, 1));
            }
            return all.stream().mapToLong(Long::longValue).toArray();
        }
    }

    /** An object with one operator (0) and one source of it (0). */
    private static Rows with(int kind, int size, int step, int lateness, int rule) {
        Rows x = new Rows();
        due(x.operator(kind, size, step, lateness, rule), 0);
        due(x.source(0), 0);
        return x;
    }

    /** An object whose operator 0 has its mark at 500, so that all times below 500 are too late. */
    private static Rows late() {
        Rows x = with(FIXED, 1, 1, 0, 0);
        due(x.promise(0, 500), 0);
        return x;
    }

    // ---- Terms

    private static void constants() {
        sentence("Terms: BAD (-1), NO (-2), FULL (-3), NONE (-99999999)");
        due(LateRows.BAD, -1);
        due(LateRows.NO, -2);
        due(LateRows.FULL, -3);
        due(LateRows.NONE, -99999999);
    }

    private static void firstOfSeveral() {
        sentence("Terms: of several the first one here (operator: BAD, FULL)");
        Rows x = new Rows();
        for (int i = 0; i < 5; i++) x.operator(FIXED, 10, 1, 0, 0);
        due(x.operator(FIXED, 10, 1, 0, 3), BAD);
        due(x.operator(FIXED, 10, 1, 0, 0), FULL);

        sentence("Terms: of several the first one here (source: BAD, NO, FULL)");
        x.source(0);
        x.end(0);
        for (int i = 1; i < 10; i++) x.source(1);
        due(x.source(5), BAD);
        due(x.source(0), NO);
        due(x.source(1), FULL);

        sentence("Terms: of several the first one here (promise: BAD, NO)");
        due(x.promise(0, -1), BAD);
        due(x.promise(0, 1000000000), BAD);
        due(x.promise(0, 0), NO);
        x.promise(1, 7);
        due(x.promise(1, -1), BAD);

        sentence("Terms: of several the first one here (bound: BAD, NO)");
        Rows y = late();
        y.row(0, 0, 1, 1);
        due(y.bound(0, 2), BAD);
        due(y.bound(-1, DROP), BAD);
        due(y.bound(0, DROP), NO);
    }

    private static void firstOfSeveralForRows() {
        sentence("6: BAD; NO: ENDED or STOPPED; FULL: 300 ROWS; NO: becomes STOPPED; in this order");
        Rows x = late();
        x.source(0);
        x.source(0);
        x.source(0);
        x.bound(0, STOP);
        due(x.row(1, 0, 1, 0), NO);
        x.end(2);
        due(x.row(1, 10, 1, 0), BAD);
        due(x.row(2, 0, -1, 0), BAD);
        for (int i = 0; i < 300; i++) x.row(0, 0, 600, 0);
        due(x.row(0, -1, 600, 0), BAD);
        due(x.row(0, 0, 100000001, 0), BAD);
        due(x.row(4, 0, 600, 0), BAD);
        due(x.row(1, 0, 600, 0), NO);
        due(x.row(2, 0, 600, 0), NO);
        due(x.row(3, 0, 1, 0), FULL);
        due(x.of(3, 3), 0);
    }

    private static void operatorsAndSources() {
        sentence("Terms: OPERATORS (5), numbered from 0 on");
        Rows x = new Rows();
        for (int i = 0; i < 5; i++) due(x.operator(i % 3, 10, 10, 0, 0), i);
        due(x.operator(FIXED, 10, 10, 0, 0), FULL);
        due(x.count(0), 5);
        due(x.mark(4), 0);

        sentence("Terms: SOURCES (10) each belong to one, numbered from 0 on");
        for (int i = 0; i < 10; i++) due(x.source(i % 5), i);
        for (int i = 0; i < 5; i++) due(x.source(i), FULL);
        for (int i = 0; i < 10; i++) due(x.of(i, 0), i % 5);
        due(x.count(1), 10);
        due(x.end(9), 0);
        due(x.source(4), FULL);

        sentence("Terms: there is no eleventh SOURCE and no sixth OPERATOR, when there are ten and five");
        due(x.promise(10, 0), BAD);
        due(x.end(10), BAD);
        due(x.row(10, 0, 0, 0), BAD);
        due(x.of(10, 0), NONE);
        due(x.mark(5), BAD);
        due(x.source(5), BAD);
        due(x.pass(5, true), BAD);
        due(x.window(5, 0, 0, 0), NONE);

        sentence("Terms: SOURCES have a PROMISE, 0 at first");
        due(x.of(0, 1), 0);
        due(x.row(0, 0, 0, 1), 1);
        due(x.of(0, 6), 0);
        due(x.promise(0, 0), 0);
    }

    private static void markOfSources() {
        sentence("Terms: an OPERATOR's MARK is 0 at first");
        Rows x = with(FIXED, 10, 1, 0, 0);
        x.operator(FIXED, 10, 1, 0, 0);
        x.source(0);
        x.source(1);
        due(x.mark(0), 0);
        due(x.mark(1), 0);

        sentence("Terms: it becomes the least PROMISE of its SOURCES");
        x.promise(0, 10);
        due(x.mark(0), 0);
        x.promise(1, 9);
        due(x.mark(0), 9);
        x.promise(1, 10);
        due(x.mark(0), 10);
        x.promise(1, 11);
        due(x.mark(0), 10);
        due(x.mark(1), 0);

        sentence("Terms: if that is above it");
        due(x.source(0), 3);
        due(x.mark(0), 10);
        x.promise(0, 20);
        due(x.mark(0), 10);
        x.promise(3, 9);
        due(x.mark(0), 10);
        x.promise(3, 10);
        due(x.mark(0), 10);
        x.promise(3, 15);
        due(x.mark(0), 11);

        sentence("Terms: the least PROMISE of its SOURCES that have not ENDED");
        x.end(0);
        due(x.mark(0), 11);
        x.end(1);
        due(x.mark(0), 15);

        sentence("Terms: 1000000000, if all have");
        x.end(3);
        due(x.mark(0), 1000000000);
        due(x.mark(1), 0);
        Rows y = with(FIXED, 10, 1, 0, 0);
        y.source(0);
        y.end(0);
        due(y.mark(0), 0);
        y.end(1);
        due(y.mark(0), 1000000000);

        sentence("Terms: the greatest PROMISE is not the MARK of all that ENDED");
        Rows z = with(FIXED, 10, 1, 0, 0);
        z.promise(0, 999999999);
        due(z.mark(0), 999999999);
        due(z.source(0), 1);
    }

    private static void markThatEndMovesTo() {
        sentence("Terms: whenever one of its SOURCES ENDS (WINDOWS are TOLD and go by that)");
        Rows x = with(FIXED, 10, 1, 10, 0);
        x.source(0);
        x.row(0, 0, 9, 1);
        x.row(0, 0, 10, 2);
        x.promise(1, 20);
        due(x.end(0), 2);
        dueAll(x.spans(0, 0), 10, 20);
        due(x.window(0, 0, 0, 2), 1);
    }

    private static void rowNumbers() {
        sentence("Terms: a KEY (0 .. 9)");
        Rows x = with(FIXED, 10, 1, 0, 0);
        due(x.row(0, 0, 5, 1), 1);
        due(x.row(0, 9, 5, 1), 1);
        due(x.row(0, -1, 5, 1), BAD);
        due(x.row(0, 10, 5, 1), BAD);
        due(x.row(0, LEAST_INT, 5, 1), BAD);
        due(x.row(0, GREATEST_INT, 5, 1), BAD);

        sentence("Terms: a time (0 .. 100000000)");
        due(x.row(0, 1, 0, 1), 1);
        due(x.row(0, 1, 100000000, 1), 1);
        dueAll(x.spans(0, 1), 0, 10, 100000000, 100000010);
        due(x.row(0, 1, -1, 1), BAD);
        due(x.row(0, 1, 100000001, 1), BAD);
        due(x.row(0, 1, LEAST_INT, 1), BAD);
        due(x.row(0, 1, GREATEST_INT, 1), BAD);

        sentence("Terms: a number");
        due(x.row(0, 2, 5, LEAST_INT), 1);
        dueAll(x.window(0, 2, 0), 0, 10, 0, 1, LEAST_INT, LEAST_INT, LEAST_INT);
        due(x.row(0, 3, 5, GREATEST_INT), 1);
        dueAll(x.window(0, 3, 0), 0, 10, 0, 1, GREATEST_INT, GREATEST_INT, GREATEST_INT);
        due(x.count(2), 6);
    }

    private static void brokenPromises() {
        sentence("Terms: is its time below the SOURCE's PROMISE, the PROMISE is BROKEN");
        Rows x = with(FIXED, 10, 1, 0, 0);
        x.source(0);
        x.promise(0, 15);
        due(x.row(0, 0, 15, 1), 1);
        due(x.of(0, 6), 0);
        due(x.of(0, 7), NONE);
        due(x.row(0, 0, 14, 1), 1);
        due(x.of(0, 6), 1);
        due(x.of(0, 7), 14);

        sentence("Terms: the ROW is judged by the MARK all the same");
        due(x.row(0, 0, 0, 1), 1);
        dueAll(x.of(0), 0, 15, 0, 0, 3, 0, 2, 14);
        x.promise(1, 15);
        due(x.source(0), 2);
        due(x.row(2, 0, 9, 1), 0);
        dueAll(x.of(2), 0, 0, 0, 0, 0, 1, 0, NONE);
        due(x.row(0, 0, 9, 1), 0);
        dueAll(x.of(0), 0, 15, 0, 0, 3, 1, 3, 14);
    }

    private static void fixedWindows() {
        sentence("Terms: WINDOWS have times from begin to end - 1; FIXED: begin is a multiple of SIZE");
        Rows x = with(FIXED, 10, 3, 0, 0);
        x.row(0, 0, 0, 1);
        x.row(0, 0, 9, 2);
        dueAll(x.spans(0, 0), 0, 10);
        x.row(0, 0, 10, 4);
        x.row(0, 0, 19, 8);
        dueAll(x.spans(0, 0), 0, 10, 10, 20);
        due(x.window(0, 0, 0, 4), 3);
        due(x.window(0, 0, 1, 4), 12);

        sentence("Terms: FIXED of the least SIZE");
        Rows y = with(FIXED, 1, 1000000, 0, 0);
        y.row(0, 0, 0, 1);
        y.row(0, 0, 1, 1);
        y.row(0, 0, 100000000, 1);
        dueAll(y.spans(0, 0), 0, 1, 1, 2, 100000000, 100000001);

        sentence("Terms: FIXED of the greatest SIZE");
        Rows z = with(FIXED, 1000000, 1, 1000000, 0);
        z.row(0, 0, 999999, 1);
        z.row(0, 0, 1000000, 1);
        z.row(0, 0, 99999999, 1);
        z.row(0, 0, 100000000, 1);
        dueAll(z.spans(0, 0), 0, 1000000, 1000000, 2000000, 99000000, 100000000, 100000000, 101000000);
    }

    private static void slidingWindows() {
        sentence("Terms: SLIDING: into all whose begins are multiples of STEP and that have its time in them");
        Rows x = with(SLIDING, 10, 4, 0, 0);
        x.row(0, 0, 21, 1);
        dueAll(x.spans(0, 0), 12, 22, 16, 26, 20, 30);
        x.row(0, 1, 22, 1);
        dueAll(x.spans(0, 1), 16, 26, 20, 30);
        x.row(0, 2, 23, 1);
        dueAll(x.spans(0, 2), 16, 26, 20, 30);
        x.row(0, 3, 24, 1);
        dueAll(x.spans(0, 3), 16, 26, 20, 30, 24, 34);

        sentence("Terms: multiples of STEP (of any sign)");
        x.row(0, 4, 0, 1);
        dueAll(x.spans(0, 4), -8, 2, -4, 6, 0, 10);
        x.row(0, 5, 1, 1);
        dueAll(x.spans(0, 5), -8, 2, -4, 6, 0, 10);
        x.row(0, 6, 2, 1);
        dueAll(x.spans(0, 6), -4, 6, 0, 10);
        x.row(0, 7, 6, 1);
        dueAll(x.spans(0, 7), 0, 10, 4, 14);

        sentence("Terms: SLIDING with one STEP in a SIZE");
        Rows y = with(SLIDING, 7, 7, 0, 0);
        y.row(0, 0, 6, 1);
        y.row(0, 0, 7, 1);
        dueAll(y.spans(0, 0), 0, 7, 7, 14);

        sentence("Terms: SLIDING with eight STEPs in a SIZE");
        Rows z = with(SLIDING, 8, 1, 0, 0);
        z.row(0, 0, 0, 1);
        dueAll(z.spans(0, 0), -7, 1, -6, 2, -5, 3, -4, 4, -3, 5, -2, 6, -1, 7, 0, 8);

        sentence("Terms: SLIDING of the greatest SIZE, at the greatest and the least time");
        Rows g = with(SLIDING, 1000000, 125000, 0, 0);
        g.row(0, 0, 100000000, 1);
        dueAll(g.spans(0, 0), 99125000, 100125000, 99250000, 100250000, 99375000, 100375000, 99500000, 100500000,
            99625000, 100625000, 99750000, 100750000, 99875000, 100875000, 100000000, 101000000);
        due(g.operator(SLIDING, 1000000, 333333, 0, 0), 1);
        g.source(1);
        g.row(1, 0, 0, 1);
        dueAll(g.spans(1, 0), -999999, 1, -666666, 333334, -333333, 666667, 0, 1000000);
        g.row(1, 1, 1, 1);
        dueAll(g.spans(1, 1), -666666, 333334, -333333, 666667, 0, 1000000);
    }

    private static void gapsWindows() {
        sentence("Terms: GAPS: from its time to time + SIZE");
        Rows x = with(GAPS, 5, 1, 0, 0);
        x.row(0, 0, 10, 1);
        dueAll(x.spans(0, 0), 10, 15);

        sentence("Terms: JOINED with all WINDOWS that have a time in common with it (side by side is none)");
        x.row(0, 0, 15, 2);
        dueAll(x.spans(0, 0), 10, 15, 15, 20);
        x.row(0, 0, 5, 4);
        dueAll(x.spans(0, 0), 5, 10, 10, 15, 15, 20);

        sentence("Terms: one time in common is enough (behind)");
        x.row(0, 1, 10, 1);
        x.row(0, 1, 14, 2);
        dueAll(x.spans(0, 1), 10, 19);

        sentence("Terms: one time in common is enough (before)");
        x.row(0, 2, 10, 1);
        x.row(0, 2, 6, 2);
        dueAll(x.spans(0, 2), 6, 15);

        sentence("Terms: from the least begin to the greatest end");
        x.row(0, 3, 10, 1);
        x.row(0, 3, 18, 2);
        x.row(0, 3, 14, 4);
        dueAll(x.window(0, 3, 0), 10, 23, 0, 3, 7, 1, 4);
        x.row(0, 3, 10, 8);
        x.row(0, 3, 18, 16);
        x.row(0, 3, 14, 32);
        dueAll(x.window(0, 3, 0), 10, 23, 0, 6, 63, 1, 32);
        due(x.window(0, 3, 1, 0), NONE);

        sentence("Terms: all WINDOWS of the KEY");
        x.row(0, 4, 30, 1);
        x.row(0, 5, 32, 2);
        x.row(0, 6, 28, 4);
        dueAll(x.spans(0, 4), 30, 35);
        dueAll(x.spans(0, 5), 32, 37);
        dueAll(x.spans(0, 6), 28, 33);

        sentence("Terms: WINDOWS are of an OPERATOR");
        x.operator(GAPS, 5, 1, 0, 0);
        x.source(1);
        x.row(1, 4, 31, 2);
        dueAll(x.spans(0, 4), 30, 35);
        dueAll(x.spans(1, 4), 31, 36);
    }

    private static void gapsOfEdgeSizes() {
        sentence("Terms: GAPS of the least SIZE");
        Rows x = with(GAPS, 1, 1000000, 0, 0);
        x.row(0, 0, 4, 1);
        x.row(0, 0, 3, 1);
        x.row(0, 0, 5, 1);
        x.row(0, 0, 4, 1);
        dueAll(x.spans(0, 0), 3, 4, 4, 5, 5, 6);
        due(x.window(0, 0, 1, 3), 2);

        sentence("Terms: GAPS of the greatest SIZE");
        Rows y = with(GAPS, 1000000, 1, 1000000, 0);
        y.row(0, 0, 100000000, 1);
        y.row(0, 0, 99000000, 1);
        dueAll(y.spans(0, 0), 99000000, 100000000, 100000000, 101000000);
        y.row(0, 0, 99000001, 1);
        dueAll(y.spans(0, 0), 99000000, 101000000);
        y.row(0, 0, 0, 1);
        dueAll(y.spans(0, 0), 0, 1000000, 99000000, 101000000);

        sentence("Terms: WINDOWS that are there (one that went is not JOINED)");
        Rows z = with(GAPS, 5, 1, 0, 0);
        z.row(0, 0, 10, 1);
        due(z.promise(0, 15), 1);
        due(z.row(0, 0, 14, 2), 1);
        dueAll(z.window(0, 0, 0), 14, 19, 0, 1, 2, 2, 2);
        due(z.count(5), 1);
    }

    private static void closedFixed() {
        sentence("Terms: CLOSED, if its end and the LATENESS are the MARK or less");
        Rows x = with(FIXED, 10, 1, 5, 0);
        x.row(0, 0, 9, 1);
        x.promise(0, 14);
        due(x.count(3), 1);
        due(x.row(0, 0, 9, 1), 1);
        due(x.row(0, 1, 0, 1), 1);
        x.promise(0, 15);
        due(x.count(3), 0);
        due(x.row(0, 0, 9, 1), 0);
        due(x.row(0, 2, 0, 1), 0);
        due(x.aside(0, 4), 1);
        due(x.aside(1, 4), 1);
        due(x.row(0, 0, 10, 1), 1);

        sentence("Terms: CLOSED with no LATENESS");
        Rows y = with(FIXED, 10, 1, 0, 0);
        y.promise(0, 9);
        due(y.row(0, 0, 0, 1), 1);
        due(y.promise(0, 10), 1);
        due(y.count(3), 0);
        due(y.row(0, 0, 9, 1), 0);

        sentence("Terms: CLOSED with the greatest LATENESS");
        Rows z = with(FIXED, 1000000, 1, 1000000, 0);
        z.row(0, 0, 100000000, 1);
        due(z.promise(0, 101999999), 1);
        due(z.count(3), 1);
        due(z.row(0, 0, 100000000, 1), 1);
        due(z.promise(0, 102000000), 0);
        due(z.count(3), 0);
        due(z.row(0, 0, 100000000, 1), 0);
    }

    private static void closedSliding() {
        sentence("Terms: CLOSED (of SLIDING: all of them), it goes ASIDE for 1; else into those not CLOSED");
        Rows x = with(SLIDING, 10, 4, 6, 0);
        x.promise(0, 7);
        due(x.row(0, 0, 1, 1), 1);
        dueAll(x.spans(0, 0), -8, 2, -4, 6, 0, 10);
        x.promise(0, 8);
        dueAll(x.spans(0, 0), -4, 6, 0, 10);
        due(x.row(0, 1, 1, 1), 1);
        dueAll(x.spans(0, 1), -4, 6, 0, 10);
        x.promise(0, 12);
        due(x.row(0, 2, 1, 1), 1);
        dueAll(x.spans(0, 2), 0, 10);
        x.promise(0, 15);
        due(x.row(0, 3, 1, 1), 1);
        dueAll(x.spans(0, 3), 0, 10);
        x.promise(0, 16);
        due(x.count(3), 0);
        due(x.row(0, 4, 1, 1), 0);
        due(x.aside(0, 4), 1);
        due(x.count(3), 0);

        sentence("Terms: of SLIDING: all but the last of eight are CLOSED");
        Rows y = with(SLIDING, 8, 1, 0, 0);
        y.promise(0, 7);
        due(y.row(0, 0, 0, 1), 1);
        dueAll(y.spans(0, 0), 0, 8);
        y.promise(0, 8);
        due(y.row(0, 0, 0, 1), 0);
        due(y.aside(0, 4), 1);
    }

    private static void closedGaps() {
        sentence("Terms: CLOSED (of GAPS: that which would come)");
        Rows x = with(GAPS, 5, 1, 10, 0);
        x.row(0, 0, 10, 1);
        x.row(0, 9, 10, 1);
        x.promise(0, 24);
        due(x.row(0, 1, 9, 1), 0);
        due(x.aside(0, 4), 1);
        due(x.row(0, 1, 10, 1), 1);
        due(x.row(0, 0, 6, 1), 1);
        dueAll(x.spans(0, 0), 6, 15);
        due(x.count(3), 3);
        x.promise(0, 25);
        due(x.count(3), 0);
        due(x.row(0, 9, 10, 1), 0);
        due(x.aside(1, 4), 1);
        due(x.row(0, 9, 11, 1), 1);
    }

    private static void ruleTwo() {
        sentence("Terms: with RULE 2, is the end the MARK or less, it goes ASIDE for 2");
        Rows x = with(FIXED, 10, 1, 5, 2);
        x.promise(0, 9);
        due(x.row(0, 0, 0, 1), 1);
        x.promise(0, 10);
        due(x.row(0, 0, 9, 1), 0);
        due(x.row(0, 1, 9, 1), 0);
        due(x.row(0, 0, 10, 1), 1);
        dueAll(x.aside(0), 0, 0, 9, 1, 2);
        dueAll(x.aside(1), 0, 1, 9, 1, 2);

        sentence("Terms: with RULE 2, CLOSED is for 1");
        x.promise(0, 15);
        due(x.row(0, 0, 9, 1), 0);
        due(x.aside(2, 4), 1);
        Rows none = with(FIXED, 10, 1, 0, 2);
        none.promise(0, 10);
        due(none.row(0, 0, 9, 1), 0);
        due(none.aside(0, 4), 1);

        sentence("Terms: with RULE 2, of SLIDING: one that is not CLOSED");
        Rows y = with(SLIDING, 10, 4, 3, 2);
        y.promise(0, 1);
        due(y.row(0, 0, 1, 1), 1);
        y.promise(0, 2);
        due(y.row(0, 0, 1, 1), 0);
        y.promise(0, 4);
        due(y.row(0, 0, 1, 1), 0);
        y.promise(0, 5);
        due(y.row(0, 0, 1, 1), 1);
        y.promise(0, 6);
        due(y.row(0, 0, 1, 1), 0);
        due(y.aside(0, 4), 2);
        due(y.aside(1, 4), 2);
        due(y.aside(2, 4), 2);
        y.promise(0, 13);
        due(y.row(0, 0, 1, 1), 0);
        due(y.aside(3, 4), 1);
        Rows last = with(SLIDING, 8, 1, 1, 2);
        last.promise(0, 8);
        due(last.row(0, 0, 0, 1), 0);
        due(last.aside(0, 4), 2);
        last.promise(0, 9);
        due(last.row(0, 0, 0, 1), 0);
        due(last.aside(1, 4), 1);

        sentence("Terms: the RULES 0 and 1 lay nothing ASIDE for 2");
        for (int rule = 0; rule < 2; rule++) {
            Rows z = with(FIXED, 10, 1, 5, rule);
            z.promise(0, 14);
            due(z.row(0, 0, 9, 1), 1);
            due(z.row(0, 0, 9, 1), 1);
        }
    }

    private static void ruleTwoOfGaps() {
        sentence("Terms: with RULE 2 of GAPS, is the end of what would come the MARK or less");
        Rows x = with(GAPS, 5, 1, 10, 2);
        x.row(0, 0, 10, 1);
        x.promise(0, 15);
        due(x.row(0, 1, 10, 1), 0);
        due(x.row(0, 1, 11, 1), 1);

        sentence("Terms: or is one that would be JOINED TOLD, it goes ASIDE for 2");
        due(x.row(0, 0, 14, 1), 0);
        due(x.row(0, 0, 15, 1), 1);
        due(x.row(0, 0, 13, 1), 0);
        due(x.count(6), 3);
        for (int i = 0; i < 3; i++) due(x.aside(i, 4), 2);

        sentence("Terms: one that would be JOINED is not TOLD, and the end is above the MARK: USED");
        due(x.row(0, 0, 16, 1), 1);
        dueAll(x.spans(0, 0), 10, 15, 15, 21);

        sentence("Terms: with RULE 2 of GAPS, CLOSED is for 1");
        x.promise(0, 25);
        due(x.row(0, 2, 10, 1), 0);
        due(x.aside(3, 4), 1);

        sentence("Terms: the RULES 0 and 1 of GAPS JOIN what is TOLD");
        for (int rule = 0; rule < 2; rule++) {
            Rows z = with(GAPS, 5, 1, 10, rule);
            z.row(0, 0, 10, 1);
            z.promise(0, 15);
            due(z.row(0, 0, 14, 1), 1);
            dueAll(z.spans(0, 0), 10, 19);
        }
    }

    private static void whatAWindowHas() {
        sentence("Terms: how many ROWS, their sum (64 bits), the least, the greatest number");
        Rows x = with(FIXED, 10, 1, 0, 0);
        for (int i = 0; i < 3; i++) x.row(0, 0, i, GREATEST_INT);
        dueAll(x.window(0, 0, 0), 0, 10, 0, 3, 6442450941L, GREATEST_INT, GREATEST_INT);
        for (int i = 0; i < 3; i++) x.row(0, 1, i, LEAST_INT);
        dueAll(x.window(0, 1, 0), 0, 10, 0, 3, -6442450944L, LEAST_INT, LEAST_INT);
        x.row(0, 2, 0, LEAST_INT);
        x.row(0, 2, 0, GREATEST_INT);
        dueAll(x.window(0, 2, 0), 0, 10, 0, 2, -1, LEAST_INT, GREATEST_INT);
        due(x.promise(0, 10), 3);
        dueAll(x.result(0), 1, 0, 0, 0, 10, 3, 6442450941L, GREATEST_INT, GREATEST_INT);
        dueAll(x.result(1), 1, 0, 1, 0, 10, 3, -6442450944L, LEAST_INT, LEAST_INT);
        due(x.pass(0, false), 3);
        dueAll(x.passed(0), 0, 0, 10, 3, 6442450941L, GREATEST_INT, GREATEST_INT);
        dueAll(x.passed(1), 1, 0, 10, 3, -6442450944L, LEAST_INT, LEAST_INT);

        sentence("Terms: the greatest of numbers below 0, the least of numbers above 0");
        Rows y = with(FIXED, 10, 1, 0, 0);
        y.row(0, 0, 0, -7);
        y.row(0, 0, 0, -9);
        dueAll(y.window(0, 0, 0), 0, 10, 0, 2, -16, -9, -7);
        y.row(0, 1, 0, 7);
        y.row(0, 1, 0, 9);
        dueAll(y.window(0, 1, 0), 0, 10, 0, 2, 16, 7, 9);

        sentence("Terms: the least and the greatest of what was JOINED, from either side");
        Rows j = with(GAPS, 5, 1, 0, 0);
        int[][] numbers = {{-8, 9}, {9, -8}, {1, 2}, {2, 1}};
        for (int key = 0; key < 4; key++) {
            j.row(0, key, 10, numbers[key][0]);
            j.row(0, key, 18, numbers[key][1]);
            j.row(0, key, 14, key < 2 ? 0 : 1);
            dueAll(j.window(0, key, 0), 10, 23, 0, 3, key < 2 ? 1 : 4, key < 2 ? -8 : 1, key < 2 ? 9 : 2);
        }

        sentence("Terms: the sum of what was JOINED (64 bits)");
        Rows z = with(GAPS, 5, 1, 0, 0);
        z.row(0, 0, 10, GREATEST_INT);
        z.row(0, 0, 18, GREATEST_INT);
        z.row(0, 0, 14, 3);
        dueAll(z.window(0, 0, 0), 10, 23, 0, 3, 4294967297L, 3, GREATEST_INT);
        due(z.pass(0, false), 1);
        dueAll(z.passed(0), 0, 10, 23, 3, 4294967297L, 3, GREATEST_INT);
    }

    private static void told() {
        sentence("Terms: TOLD when the MARK comes to its end or passes it");
        Rows x = with(FIXED, 10, 1, 5, 0);
        x.row(0, 0, 0, 3);
        due(x.promise(0, 9), 0);
        due(x.window(0, 0, 0, 2), 0);
        due(x.promise(0, 10), 1);
        due(x.window(0, 0, 0, 2), 1);
        dueAll(x.result(0), 1, 0, 0, 0, 10, 1, 3, 3, 3);
        due(x.promise(0, 11), 0);
        Rows far = with(FIXED, 10, 1, 5, 0);
        far.row(0, 0, 0, 3);
        due(far.promise(0, 13), 1);

        sentence("Terms: or behind a ROW that made it, if the MARK is there already");
        due(x.row(0, 1, 9, 4), 1);
        due(x.count(5), 2);
        dueAll(x.result(1), 1, 0, 1, 0, 10, 1, 4, 4, 4);
        due(x.row(0, 1, 10, 4), 1);
        due(x.count(5), 2);

        sentence("Terms: TOLD once, though it is CLOSED by the same move");
        Rows y = with(FIXED, 10, 1, 5, 1);
        y.row(0, 0, 0, 3);
        due(y.promise(0, 15), 1);
        due(y.count(3), 0);

        sentence("Terms: what came before it is TOLD is no late ROW");
        Rows z = with(FIXED, 10, 1, 5, 0);
        z.promise(0, 9);
        z.row(0, 0, 0, 3);
        z.row(0, 0, 1, 3);
        due(z.count(5), 0);
    }

    private static void ruleZero() {
        sentence("Terms: RULE 0: TAKEN BACK, then TOLD anew, at once (the same numbers as TOLD last)");
        Rows x = with(FIXED, 10, 1, 5, 0);
        x.row(0, 0, 0, 3);
        x.promise(0, 10);
        x.row(0, 0, 1, -4);
        due(x.count(5), 3);
        dueAll(x.result(1), -1, 0, 0, 0, 10, 1, 3, 3, 3);
        dueAll(x.result(2), 1, 0, 0, 0, 10, 2, -1, -4, 3);
        x.row(0, 0, 1, 9);
        due(x.count(5), 5);
        dueAll(x.result(3), -1, 0, 0, 0, 10, 2, -1, -4, 3);
        dueAll(x.result(4), 1, 0, 0, 0, 10, 3, 8, -4, 9);
        due(x.promise(0, 15), 0);

        sentence("Terms: behind a ROW: WINDOWS by begins");
        Rows y = with(SLIDING, 10, 4, 6, 0);
        y.promise(0, 1);
        y.row(0, 0, 1, 5);
        due(y.promise(0, 6), 2);
        y.row(0, 0, 1, 6);
        dueAll(y.result(2), -1, 0, 0, -8, 2, 1, 5, 5, 5);
        dueAll(y.result(3), 1, 0, 0, -8, 2, 2, 11, 5, 6);
        dueAll(y.result(4), -1, 0, 0, -4, 6, 1, 5, 5, 5);
        dueAll(y.result(5), 1, 0, 0, -4, 6, 2, 11, 5, 6);
        due(y.count(5), 6);
        y.row(0, 1, 1, 7);
        dueAll(y.result(6), 1, 0, 1, -8, 2, 1, 7, 7, 7);
        dueAll(y.result(7), 1, 0, 1, -4, 6, 1, 7, 7, 7);
        due(y.count(5), 8);
        due(y.promise(0, 7), 0);
    }

    private static void ruleOne() {
        sentence("Terms: RULE 1: when it goes, likewise, if something came since it was TOLD");
        Rows x = with(FIXED, 10, 1, 5, 1);
        x.row(0, 0, 0, 3);
        x.row(0, 1, 0, 3);
        due(x.promise(0, 10), 2);
        due(x.row(0, 1, 1, -4), 1);
        due(x.row(0, 1, 1, 9), 1);
        due(x.count(5), 2);
        dueAll(x.window(0, 1, 0), 0, 10, 1, 3, 8, -4, 9);
        due(x.promise(0, 14), 0);
        due(x.promise(0, 15), 2);
        dueAll(x.result(2), -1, 0, 1, 0, 10, 1, 3, 3, 3);
        dueAll(x.result(3), 1, 0, 1, 0, 10, 3, 8, -4, 9);
        due(x.count(3), 0);

        sentence("Terms: RULE 1: TOLD behind the ROW that made it; nothing came since");
        Rows y = with(FIXED, 10, 1, 5, 1);
        y.promise(0, 10);
        due(y.row(0, 0, 1, 4), 1);
        due(y.count(5), 1);
        due(y.promise(0, 15), 0);
        due(y.count(3), 0);

        sentence("Terms: RULE 1: the end of all SOURCES lets it go, too");
        Rows z = with(FIXED, 10, 1, 1000000, 1);
        z.promise(0, 10);
        z.row(0, 0, 1, 4);
        z.row(0, 0, 1, 5);
        due(z.end(0), 2);
        dueAll(z.result(1), -1, 0, 0, 0, 10, 1, 4, 4, 4);
        dueAll(z.result(2), 1, 0, 0, 0, 10, 2, 9, 4, 5);
    }

    private static void joinedWindowsAreNoMore() {
        sentence("Terms: JOINED into one with another begin or end: those TOLD are TAKEN BACK, at once, by begins");
        for (int rule = 0; rule < 2; rule++) {
            Rows x = with(GAPS, 10, 1, 100, rule);
            x.row(0, 0, 15, 2);
            x.row(0, 0, 0, 1);
            due(x.promise(0, 25), 2);
            due(x.row(0, 0, 7, 4), 1);
            due(x.count(5), 5);
            dueAll(x.result(2), -1, 0, 0, 0, 10, 1, 1, 1, 1);
            dueAll(x.result(3), -1, 0, 0, 15, 25, 1, 2, 2, 2);
            dueAll(x.result(4), 1, 0, 0, 0, 25, 3, 7, 1, 4);
            due(x.count(3), 1);
            due(x.promise(0, 125), 0);
        }

        sentence("Terms: then the new one is TOLD, if the MARK is there");
        Rows y = with(GAPS, 10, 1, 100, 0);
        y.row(0, 0, 0, 1);
        y.promise(0, 17);
        y.row(0, 0, 8, 2);
        due(y.count(5), 2);
        due(y.window(0, 0, 0, 2), 0);
        due(y.promise(0, 18), 1);
        dueAll(y.result(2), 1, 0, 0, 0, 18, 2, 3, 1, 2);
        y.row(0, 0, 8, 4);
        dueAll(y.result(3), -1, 0, 0, 0, 18, 2, 3, 1, 2);
        dueAll(y.result(4), 1, 0, 0, 0, 18, 3, 7, 1, 4);

        sentence("Terms: another begin alone, another end alone");
        Rows z = with(GAPS, 10, 1, 100, 1);
        z.row(0, 0, 10, 1);
        due(z.promise(0, 30), 1);
        z.row(0, 0, 9, 2);
        dueAll(z.result(1), -1, 0, 0, 10, 20, 1, 1, 1, 1);
        dueAll(z.result(2), 1, 0, 0, 9, 20, 2, 3, 1, 2);
        z.row(0, 0, 11, 4);
        dueAll(z.result(3), -1, 0, 0, 9, 20, 2, 3, 1, 2);
        dueAll(z.result(4), 1, 0, 0, 9, 21, 3, 7, 1, 4);

        sentence("Terms: the same begin and end: RULE 1 TELLS it anew when it goes");
        z.row(0, 0, 11, 8);
        due(z.count(5), 5);
        due(z.window(0, 0, 0, 2), 1);
        due(z.promise(0, 121), 2);
        dueAll(z.result(5), -1, 0, 0, 9, 21, 3, 7, 1, 4);
        dueAll(z.result(6), 1, 0, 0, 9, 21, 4, 15, 1, 8);
    }

    private static void joinedWithWhatChanged() {
        sentence("Terms: TAKEN BACK is what was TOLD of it last (RULE 1, JOINED before it went)");
        Rows x = with(GAPS, 10, 1, 100, 1);
        x.row(0, 0, 10, 1);
        x.promise(0, 20);
        x.row(0, 0, 10, 2);
        due(x.count(5), 1);
        x.row(0, 0, 9, 4);
        due(x.count(5), 3);
        dueAll(x.result(1), -1, 0, 0, 10, 20, 1, 1, 1, 1);
        dueAll(x.result(2), 1, 0, 0, 9, 20, 3, 7, 1, 4);
        due(x.promise(0, 120), 0);
        due(x.count(3), 0);

        sentence("Terms: those that were TOLD are TAKEN BACK (the others are not)");
        Rows y = with(GAPS, 10, 1, 100, 1);
        y.row(0, 0, 0, 1);
        y.row(0, 0, 15, 2);
        due(y.promise(0, 10), 1);
        y.row(0, 0, 0, 4);
        y.row(0, 0, 7, 8);
        due(y.count(5), 2);
        dueAll(y.result(1), -1, 0, 0, 0, 10, 1, 1, 1, 1);
        dueAll(y.window(0, 0, 0), 0, 25, 0, 4, 15, 1, 8);
        due(y.promise(0, 25), 1);
        dueAll(y.result(2), 1, 0, 0, 0, 25, 4, 15, 1, 8);
        due(y.promise(0, 125), 0);
    }

    private static void joinedBesideOthers() {
        sentence("Terms: JOINED ones alone are no more and TAKEN BACK (not the WINDOWS and KEYS beside them)");
        Rows x = with(GAPS, 10, 1, 100, 0);
        int[][] rows = {{0, 0}, {0, 60}, {1, 0}, {1, 20}, {1, 35}, {1, 60}, {1, 80}, {2, 0}, {2, 60}};
        for (int n = 0; n < rows.length; n++) due(x.row(0, rows[n][0], rows[n][1], n), 1);
        due(x.promise(0, 90), 9);
        due(x.row(0, 1, 27, 100), 1);
        due(x.count(5), 12);
        dueAll(x.result(9), -1, 0, 1, 20, 30, 1, 3, 3, 3);
        dueAll(x.result(10), -1, 0, 1, 35, 45, 1, 4, 4, 4);
        dueAll(x.result(11), 1, 0, 1, 20, 45, 3, 107, 3, 100);
        due(x.count(3), 8);
        dueAll(x.window(0, 0, 0), 0, 10, 1, 1, 0, 0, 0);
        dueAll(x.window(0, 0, 1), 60, 70, 1, 1, 1, 1, 1);
        dueAll(x.window(0, 1, 0), 0, 10, 1, 1, 2, 2, 2);
        dueAll(x.window(0, 1, 1), 20, 45, 1, 3, 107, 3, 100);
        dueAll(x.window(0, 1, 2), 60, 70, 1, 1, 5, 5, 5);
        dueAll(x.window(0, 1, 3), 80, 90, 1, 1, 6, 6, 6);
        dueAll(x.window(0, 2, 0), 0, 10, 1, 1, 7, 7, 7);
        dueAll(x.window(0, 2, 1), 60, 70, 1, 1, 8, 8, 8);
    }

    private static void orderWhenTheMarkMoves() {
        sentence("Terms: first all that are to be TOLD, by ends, then KEYS");
        Rows x = with(GAPS, 10, 1, 0, 0);
        x.row(0, 0, 7, 1);
        x.row(0, 1, 5, 2);
        x.row(0, 2, 6, 4);
        x.row(0, 3, 5, 8);
        x.row(0, 3, 20, 16);
        due(x.promise(0, 30), 5);
        dueAll(x.result(0), 1, 0, 1, 5, 15, 1, 2, 2, 2);
        dueAll(x.result(1), 1, 0, 3, 5, 15, 1, 8, 8, 8);
        dueAll(x.result(2), 1, 0, 2, 6, 16, 1, 4, 4, 4);
        dueAll(x.result(3), 1, 0, 0, 7, 17, 1, 1, 1, 1);
        dueAll(x.result(4), 1, 0, 3, 20, 30, 1, 16, 16, 16);

        sentence("Terms: then those that are CLOSED go, in the same order");
        Rows y = with(GAPS, 10, 1, 5, 1);
        y.row(0, 0, 2, 1);
        y.row(0, 1, 1, 1);
        y.row(0, 2, 1, 1);
        y.row(0, 3, 7, 1);
        due(y.promise(0, 12), 3);
        y.row(0, 2, 1, 2);
        y.row(0, 1, 1, 2);
        y.row(0, 0, 2, 2);
        due(y.promise(0, 17), 7);
        dueAll(y.result(3), 1, 0, 3, 7, 17, 1, 1, 1, 1);
        int[] keys = {1, 2, 0};
        for (int n = 0; n < 3; n++) {
            int begin = keys[n] == 0 ? 2 : 1;
            dueAll(y.result(4 + 2 * n), -1, 0, keys[n], begin, begin + 10, 1, 1, 1, 1);
            dueAll(y.result(5 + 2 * n), 1, 0, keys[n], begin, begin + 10, 2, 3, 1, 2);
        }
        dueAll(y.spans(0, 3), 7, 17);
        due(y.count(3), 1);

        sentence("Terms: the MARK of one OPERATOR moves nothing of another");
        Rows z = with(FIXED, 10, 1, 0, 0);
        z.operator(FIXED, 10, 1, 0, 0);
        z.source(1);
        z.row(0, 0, 5, 1);
        z.row(1, 0, 5, 2);
        due(z.promise(1, 10), 1);
        due(z.count(3), 1);
        dueAll(z.result(0), 1, 1, 0, 0, 10, 1, 2, 2, 2);
        due(z.promise(0, 10), 1);
        due(z.count(3), 0);
    }

    /** An object with a told window of many rows: each row behind the first makes two results. */
    private static Rows withResults(int results) {
        Rows x = with(FIXED, 10, 1, 1000000, 0);
        x.promise(0, 10);
        if (results % 2 == 0) x.row(0, 1, 5, -1);
        for (int n = 0; n < (results + 1) / 2; n++) x.row(0, 0, 5, n);
        return x;
    }

    private static void keptResults() {
        sentence("Terms: RESULTS are kept, the latest 400 (399 of them)");
        Rows less = withResults(399);
        due(less.count(4), 399);
        due(less.count(5), 399);
        dueAll(less.result(0), 1, 0, 0, 0, 10, 1, 0, 0, 0);
        due(less.result(399, 0), NONE);

        sentence("Terms: RESULTS are kept, the latest 400 (400 of them)");
        Rows all = withResults(400);
        due(all.count(4), 400);
        due(all.count(5), 400);
        dueAll(all.result(0), 1, 0, 1, 0, 10, 1, -1, -1, -1);
        dueAll(all.result(1), 1, 0, 0, 0, 10, 1, 0, 0, 0);
        dueAll(all.result(399), 1, 0, 0, 0, 10, 200, 19900, 0, 199);
        due(all.result(400, 0), NONE);

        sentence("Terms: RESULTS are kept, the latest 400 (401 of them)");
        Rows one = withResults(401);
        due(one.count(4), 400);
        due(one.count(5), 401);
        dueAll(one.result(0), -1, 0, 0, 0, 10, 1, 0, 0, 0);
        dueAll(one.result(399), 1, 0, 0, 0, 10, 201, 20100, 0, 200);
        due(one.result(400, 0), NONE);

        sentence("Terms: RESULTS are kept, the latest 400 (598 of them)");
        Rows most = withResults(598);
        due(most.count(4), 400);
        due(most.count(5), 598);
        dueAll(most.result(0), -1, 0, 0, 0, 10, 99, 4851, 0, 98);
        dueAll(most.result(1), 1, 0, 0, 0, 10, 100, 4950, 0, 99);
        dueAll(most.result(399), 1, 0, 0, 0, 10, 299, 44551, 0, 298);

        sentence("Terms: the answer of a call counts RESULTS that are no more kept, too");
        Rows many = with(SLIDING, 8, 1, 1000000, 1);
        for (int n = 0; n < 15; n++) due(many.row(0, n % 10, 10 * n, n), 1);
        due(many.promise(0, 1000), 120);
        for (int n = 0; n < 15; n++) due(many.row(0, n % 10, 10 * n, n), 1);
        due(many.end(0), 240);
        due(many.count(4), 360);
    }

    private static void boundedAside() {
        sentence("Terms: ASIDE lie ROWS, in order, BOUND at most (100 at first)");
        Rows x = late();
        for (int n = 0; n < 100; n++) due(x.row(0, n % 10, n, n), 0);
        due(x.count(6), 100);
        due(x.count(7), 0);
        dueAll(x.aside(0), 0, 0, 0, 0, 1);
        dueAll(x.aside(99), 0, 9, 99, 99, 1);

        sentence("Terms: with the rule DROP (0; at first) the eldest is dropped");
        due(x.row(0, 3, 100, -5), 0);
        due(x.count(6), 100);
        due(x.count(7), 1);
        dueAll(x.aside(0), 0, 1, 1, 1, 1);
        dueAll(x.aside(99), 0, 3, 100, -5, 1);
        due(x.aside(100, 0), NONE);
        due(x.of(0, 3), 0);
        for (int n = 0; n < 150; n++) due(x.row(0, n % 10, 200 + n, n), 0);
        due(x.count(7), 151);
        dueAll(x.aside(0), 0, 0, 250, 50, 1);
        dueAll(x.aside(99), 0, 9, 349, 149, 1);

        sentence("Terms: the eldest is dropped, if there is one, else (BOUND 0) this ROW");
        Rows y = late();
        due(y.bound(0, DROP), 0);
        due(y.row(0, 0, 1, 1), 0);
        due(y.count(6), 0);
        due(y.count(7), 1);
        due(y.aside(0, 0), NONE);
        dueAll(y.of(0), 0, 500, 0, 0, 0, 1, 1, 1);
        due(y.count(2), 1);

        sentence("Terms: BOUND 1: the only ROW is dropped for the next");
        due(y.bound(1, DROP), 0);
        due(y.row(0, 0, 2, 2), 0);
        due(y.count(7), 1);
        due(y.row(0, 0, 3, 3), 0);
        due(y.count(7), 2);
        due(y.count(6), 1);
        dueAll(y.aside(0), 0, 0, 3, 3, 1);
    }

    private static void stoppedSources() {
        sentence("Terms: with STOP (1) the ROW does not come (NO), and its SOURCE is STOPPED (this alone changes)");
        Rows x = late();
        x.source(0);
        due(x.bound(2, STOP), 0);
        due(x.row(0, 0, 1, 1), 0);
        due(x.row(0, 0, 2, 2), 0);
        due(x.of(0, 3), 0);
        due(x.row(0, 0, 3, 3), NO);
        dueAll(x.of(0), 0, 500, 0, 1, 0, 2, 2, 1);
        dueAll(x.counts(), 1, 2, 2, 0, 0, 0, 2, 0, 0);
        dueAll(x.aside(0), 0, 0, 1, 1, 1);
        dueAll(x.aside(1), 0, 0, 2, 2, 1);
        due(x.pass(0, true), 2);

        sentence("Terms: no ROW of it comes, until what is ASIDE is TAKEN");
        due(x.row(0, 0, 600, 3), NO);
        due(x.row(0, 0, 3, 3), NO);
        due(x.bound(100, DROP), 2);
        due(x.row(0, 0, 600, 3), NO);
        due(x.promise(0, 501), 0);
        due(x.row(0, 0, 600, 3), NO);
        due(x.take(), 2);
        due(x.row(0, 0, 600, 3), 1);
        due(x.row(0, 0, 3, 3), 0);

        sentence("Terms: its SOURCE is STOPPED (no other)");
        Rows y = late();
        y.source(0);
        y.bound(0, STOP);
        due(y.row(0, 0, 1, 1), NO);
        due(y.of(0, 3), 1);
        due(y.of(1, 3), 0);
        due(y.row(1, 0, 600, 1), 1);
        due(y.row(1, 0, 1, 1), NO);
        due(y.of(1, 3), 1);

        sentence("Terms: with STOP a ROW that is USED stops nothing");
        Rows z = late();
        z.bound(0, STOP);
        due(z.row(0, 0, 500, 1), 1);
        due(z.of(0, 3), 0);

        sentence("Terms: with STOP what is ASIDE for 2 stops, too");
        Rows two = with(FIXED, 10, 1, 5, 2);
        two.promise(0, 10);
        two.bound(0, STOP);
        due(two.row(0, 0, 9, 1), NO);
        due(two.of(0, 3), 1);
    }

    private static void onePass() {
        sentence("Terms: ONE PASS: all that came USED, or also those that went ASIDE, even if dropped or TAKEN");
        Rows x = late();
        x.bound(1, DROP);
        x.row(0, 0, 1, 1);
        x.row(0, 0, 2, 2);
        x.take();
        x.row(0, 0, 3, 4);
        x.row(0, 0, 500, 8);
        x.take();
        x.bound(0, DROP);
        x.row(0, 0, 4, 16);
        due(x.pass(0, false), 1);
        dueAll(x.passed(0), 0, 500, 501, 1, 8, 8, 8);
        due(x.pass(0, true), 5);
        int[] numbers = {1, 2, 4, 16};
        for (int i = 0; i < 4; i++) dueAll(x.passed(i), 0, i + 1, i + 2, 1, numbers[i], numbers[i], numbers[i]);
        dueAll(x.passed(4), 0, 500, 501, 1, 8, 8, 8);

        sentence("Terms: a ROW that did not come is in no ONE PASS");
        x.bound(0, STOP);
        due(x.row(0, 0, 5, 1), NO);
        due(x.pass(0, true), 5);

        sentence("Terms: as if none were late");
        Rows y = with(SLIDING, 10, 5, 0, 0);
        y.promise(0, 15);
        due(y.row(0, 0, 12, 1), 1);
        due(y.count(3), 1);
        due(y.pass(0, false), 2);
        dueAll(y.passed(0), 0, 5, 15, 1, 1, 1, 1);
        dueAll(y.passed(1), 0, 10, 20, 1, 1, 1, 1);

        sentence("Terms: ONE PASS by KEYS, then begins");
        Rows z = with(SLIDING, 10, 5, 0, 0);
        z.row(0, 9, 0, 1);
        z.row(0, 0, 22, 2);
        z.row(0, 0, 3, 4);
        z.row(0, 0, 9, 8);
        due(z.pass(0, false), 7);
        dueAll(z.passed(0), 0, -5, 5, 1, 4, 4, 4);
        dueAll(z.passed(1), 0, 0, 10, 2, 12, 4, 8);
        dueAll(z.passed(2), 0, 5, 15, 1, 8, 8, 8);
        dueAll(z.passed(3), 0, 15, 25, 1, 2, 2, 2);
        dueAll(z.passed(4), 0, 20, 30, 1, 2, 2, 2);
        dueAll(z.passed(5), 9, -5, 5, 1, 1, 1, 1);
        dueAll(z.passed(6), 9, 0, 10, 1, 1, 1, 1);

        sentence("Terms: ONE PASS: eight WINDOWS that two ROWS belong into");
        Rows eight = with(SLIDING, 8, 1, 0, 0);
        eight.row(0, 0, 3, 1);
        eight.row(0, 0, 3, 2);
        eight.row(0, 0, 4, 4);
        due(eight.pass(0, false), 9);
        dueAll(eight.passed(0), 0, -4, 4, 2, 3, 1, 2);
        dueAll(eight.passed(1), 0, -3, 5, 3, 7, 1, 4);
        dueAll(eight.passed(7), 0, 3, 11, 3, 7, 1, 4);
        dueAll(eight.passed(8), 0, 4, 12, 1, 4, 4, 4);
    }

    private static void onePassOfGaps() {
        sentence("Terms: ONE PASS of GAPS: one time in common is JOINED, side by side is not, in any order of coming");
        int[][] orders = {{10, 15, 19, 23}, {23, 19, 15, 10}, {15, 23, 10, 19}};
        for (int[] times : orders) {
            Rows x = with(GAPS, 5, 1, 0, 0);
            for (int time : times) x.row(0, 0, time, time);
            due(x.pass(0, false), 2);
            dueAll(x.passed(0), 0, 10, 15, 1, 10, 10, 10);
            dueAll(x.passed(1), 0, 15, 28, 3, 57, 15, 23);
        }

        sentence("Terms: ONE PASS of GAPS JOINS over what went");
        Rows y = with(GAPS, 5, 1, 0, 0);
        y.row(0, 0, 10, 1);
        due(y.promise(0, 15), 1);
        due(y.row(0, 0, 14, 2), 1);
        due(y.row(0, 0, 6, 4), 0);
        due(y.pass(0, false), 1);
        dueAll(y.passed(0), 0, 10, 19, 2, 3, 1, 2);
        due(y.pass(0, true), 1);
        dueAll(y.passed(0), 0, 6, 19, 3, 7, 1, 4);

        sentence("Terms: ONE PASS of GAPS keeps KEYS apart");
        Rows z = with(GAPS, 5, 1, 0, 0);
        z.row(0, 1, 10, 1);
        z.row(0, 0, 12, 2);
        z.row(0, 2, 14, 4);
        due(z.pass(0, false), 3);
        dueAll(z.passed(0), 0, 12, 17, 1, 2, 2, 2);
        dueAll(z.passed(1), 1, 10, 15, 1, 1, 1, 1);
        dueAll(z.passed(2), 2, 14, 19, 1, 4, 4, 4);
    }

    // ---- Promises 1 to 16

    private static void promise1() {
        sentence("1: nothing is there");
        Rows x = new Rows();
        dueAll(x.counts(), 0, 0, 0, 0, 0, 0, 0, 0, 0);
        due(x.source(0), BAD);
        due(x.promise(0, 0), BAD);
        due(x.end(0), BAD);
        due(x.row(0, 0, 0, 0), BAD);
        for (int what = 0; what < 9; what++) due(x.result(0, what), NONE);
        for (int what = 0; what < 5; what++) due(x.aside(0, what), NONE);
        for (int what = 0; what < 8; what++) due(x.of(0, what), NONE);
        for (int what = 0; what < 7; what++) due(x.window(0, 0, 0, what), NONE);
        for (int what = 0; what < 7; what++) due(x.passed(0, what), NONE);
        due(x.mark(0), BAD);
        due(x.pass(0, false), BAD);
        due(x.pass(0, true), BAD);
        due(x.take(), 0);
        due(x.bound(0, STOP), 0);
        dueAll(x.counts(), 0, 0, 0, 0, 0, 0, 0, 0, 0);

        sentence("1: nothing of another object is there");
        Rows y = late();
        y.row(0, 0, 1, 1);
        Rows z = new Rows();
        dueAll(z.counts(), 0, 0, 0, 0, 0, 0, 0, 0, 0);
        due(z.operator(FIXED, 10, 1, 0, 0), 0);
        due(z.mark(0), 0);
    }

    private static void promise2() {
        Rows x = new Rows();
        sentence("2: BAD: no KIND");
        for (int kind : new int[] {-1, 3, LEAST_INT, GREATEST_INT}) due(x.operator(kind, 10, 10, 0, 0), BAD);
        sentence("2: BAD: no RULE (0 .. 2)");
        for (int rule : new int[] {-1, 3, LEAST_INT, GREATEST_INT}) due(x.operator(FIXED, 10, 10, 0, rule), BAD);
        for (int kind = 0; kind < 3; kind++) {
            sentence("2: BAD: SIZE is not 1 .. 1000000");
            for (int size : new int[] {0, 1000001, -1, LEAST_INT, GREATEST_INT}) {
                due(x.operator(kind, size, 125001, 0, 0), BAD);
                due(x.operator(kind, size, 1, 0, 0), BAD);
            }
            sentence("2: BAD: STEP is not 1 .. 1000000 (it must be such a number)");
            for (int step : new int[] {0, 1000001, -1, LEAST_INT, GREATEST_INT}) {
                due(x.operator(kind, 1000000, step, 0, 0), BAD);
                due(x.operator(kind, 1, step, 0, 0), BAD);
            }
            sentence("2: BAD: LATENESS is not 0 .. 1000000");
            for (int lateness : new int[] {-1, 1000001, LEAST_INT, GREATEST_INT}) {
                due(x.operator(kind, 10, 10, lateness, 0), BAD);
            }
        }
        sentence("2: BAD: with SLIDING also: STEP above SIZE");
        due(x.operator(SLIDING, 10, 11, 0, 0), BAD);
        due(x.operator(SLIDING, 1, 2, 0, 0), BAD);
        due(x.operator(SLIDING, 999999, 1000000, 0, 0), BAD);
        sentence("2: BAD: with SLIDING also: SIZE above 8 times STEP");
        due(x.operator(SLIDING, 9, 1, 0, 0), BAD);
        due(x.operator(SLIDING, 17, 2, 0, 0), BAD);
        due(x.operator(SLIDING, 1000000, 124999, 0, 0), BAD);
        due(x.operator(SLIDING, 1000000, 1, 0, 0), BAD);
        due(x.count(0), 0);

        int[][] good = {
            {FIXED, 1, 1, 0, 0}, {FIXED, 1000000, 1000000, 1000000, 2}, {GAPS, 1, 1, 0, 0},
            {GAPS, 1000000, 1000000, 1000000, 2}, {SLIDING, 1, 1, 0, 0}, {SLIDING, 1000000, 1000000, 1000000, 2},
            {SLIDING, 8, 1, 0, 1}, {SLIDING, 1000000, 125000, 0, 1}, {SLIDING, 10, 10, 0, 0}, {SLIDING, 16, 2, 0, 0},
        };
        sentence("2: an OPERATOR with the least and greatest of all numbers");
        for (int[] g : good) due(new Rows().operator(g[0], g[1], g[2], g[3], g[4]), 0);
        sentence("2: STEP counts for nothing otherwise (above SIZE, SIZE above 8 times STEP)");
        for (int kind : new int[] {FIXED, GAPS}) {
            due(new Rows().operator(kind, 1, 1000000, 0, 0), 0);
            due(new Rows().operator(kind, 1000000, 1, 0, 0), 0);
        }
    }

    private static void promise3() {
        sentence("3: BAD: no such OPERATOR");
        Rows x = new Rows();
        due(x.operator(FIXED, 10, 1, 0, 0), 0);
        for (int operator : new int[] {-1, 1, 5, LEAST_INT, GREATEST_INT}) due(x.source(operator), BAD);
        due(x.count(1), 0);

        sentence("3: NO: its MARK is 1000000000");
        due(x.source(0), 0);
        due(x.end(0), 0);
        due(x.source(0), NO);
        due(x.count(1), 1);

        sentence("3: not NO while one SOURCE has not ENDED");
        Rows y = with(FIXED, 10, 1, 0, 0);
        y.source(0);
        y.end(0);
        due(y.source(0), 2);

        sentence("3: FULL (10 SOURCES of all OPERATORS)");
        Rows z = new Rows();
        z.operator(FIXED, 10, 1, 0, 0);
        z.operator(FIXED, 10, 1, 0, 0);
        for (int i = 0; i < 9; i++) due(z.source(0), i);
        due(z.source(1), 9);
        due(z.source(1), FULL);

        sentence("3: (The MARK stays.)");
        Rows m = late();
        due(m.source(0), 1);
        due(m.mark(0), 500);
        due(m.row(1, 0, 499, 1), 0);
        due(m.promise(0, 600), 0);
        due(m.mark(0), 500);
    }

    private static void promise4() {
        sentence("4: BAD: no such SOURCE");
        Rows x = with(FIXED, 10, 1, 0, 0);
        for (int source : new int[] {-1, 1, 10, LEAST_INT, GREATEST_INT}) due(x.promise(source, 5), BAD);
        sentence("4: BAD: t is not 0 .. 999999999");
        for (int t : new int[] {-1, 1000000000, LEAST_INT, GREATEST_INT}) due(x.promise(0, t), BAD);
        due(x.of(0, 1), 0);
        sentence("4: t may be 0");
        due(x.promise(0, 0), 0);
        sentence("4: NO: it is above that");
        due(x.promise(0, 10), 0);
        due(x.promise(0, 9), NO);
        due(x.promise(0, 0), NO);
        due(x.of(0, 1), 10);
        sentence("4: the same PROMISE once more");
        due(x.promise(0, 10), 0);
        sentence("4: t may be 999999999");
        due(x.promise(0, 999999999), 0);
        due(x.mark(0), 999999999);
        due(x.promise(0, 999999999), 0);
        sentence("4: NO: it has ENDED");
        x.end(0);
        due(x.promise(0, 999999999), NO);
        sentence("4: a SOURCE that is STOPPED may PROMISE");
        Rows y = late();
        y.bound(0, STOP);
        due(y.row(0, 0, 1, 1), NO);
        due(y.promise(0, 501), 0);
        due(y.of(0, 1), 501);
        due(y.of(0, 3), 1);

        sentence("4: how many RESULTS there were by that (both signs)");
        Rows z = with(FIXED, 10, 1, 10, 1);
        z.row(0, 0, 0, 1);
        due(z.promise(0, 10), 1);
        z.row(0, 0, 0, 1);
        z.row(0, 0, 10, 1);
        due(z.promise(0, 20), 3);
    }

    private static void promise5() {
        sentence("5: BAD: no such SOURCE");
        Rows x = with(FIXED, 10, 1, 1000000, 1);
        for (int source : new int[] {-1, 1, 10, LEAST_INT, GREATEST_INT}) due(x.end(source), BAD);
        due(x.of(0, 2), 0);
        sentence("5: a SOURCE has ENDED: how many RESULTS there were by that");
        x.row(0, 0, 100000000, 1);
        x.row(0, 0, 0, 1);
        due(x.end(0), 2);
        due(x.of(0, 2), 1);
        due(x.count(3), 0);
        due(x.of(0, 1), 0);
        sentence("5: NO: it has already");
        due(x.end(0), NO);
        sentence("5: the last of all lets every WINDOW go");
        Rows y = with(GAPS, 1000000, 1, 1000000, 2);
        y.row(0, 0, 100000000, 1);
        y.promise(0, 101999999);
        due(y.count(3), 1);
        due(y.end(0), 0);
        due(y.count(3), 0);
        sentence("5: a SOURCE that is STOPPED may END, and stays STOPPED until what is ASIDE is TAKEN");
        Rows z = late();
        z.bound(0, STOP);
        z.row(0, 0, 1, 1);
        due(z.end(0), 0);
        dueAll(z.of(0), 0, 500, 1, 1, 0, 0, 0, NONE);
        z.take();
        due(z.of(0, 3), 0);
        due(z.row(0, 0, 600, 1), NO);
    }

    private static void promise6Refused() {
        sentence("6: BAD: no such SOURCE");
        Rows x = with(FIXED, 10, 1, 0, 0);
        for (int source : new int[] {-1, 1, 10, LEAST_INT, GREATEST_INT}) due(x.row(source, 0, 5, 1), BAD);
        due(x.count(2), 0);
        sentence("6: NO: the SOURCE has ENDED");
        x.source(0);
        x.end(0);
        due(x.row(0, 0, 5, 1), NO);
        due(x.row(1, 0, 5, 1), 1);

        sentence("6: 1 USED, 0 ASIDE (or dropped)");
        Rows y = late();
        due(y.row(0, 0, 500, 1), 1);
        due(y.row(0, 0, 499, 1), 0);
        y.take();
        y.bound(0, DROP);
        due(y.row(0, 0, 499, 1), 0);
        due(y.of(0, 4), 1);
        due(y.of(0, 5), 2);
    }

    private static void promise6Rows() {
        sentence("6: FULL: 300 ROWS came (of all OPERATORS; USED, ASIDE, dropped or TAKEN)");
        Rows x = late();
        x.operator(GAPS, 10, 1, 0, 0);
        x.source(1);
        for (int n = 0; n < 120; n++) due(x.row(0, 0, 1, n), 0);
        x.take();
        for (int n = 0; n < 80; n++) due(x.row(1, 0, 5, n), 1);
        for (int n = 0; n < 99; n++) due(x.row(0, 0, 700, n), 1);
        due(x.count(2), 299);
        due(x.row(0, 10, 0, 0), BAD);
        due(x.row(1, 0, 5, 80), 1);
        due(x.count(2), 300);
        due(x.row(0, 0, 1, 0), FULL);
        due(x.row(0, 0, 700, 0), FULL);
        due(x.row(1, 0, 5, 0), FULL);
        due(x.count(2), 300);
        due(x.count(6), 0);
        due(x.pass(1, true), 1);
        dueAll(x.passed(0), 0, 5, 15, 81, 3240, 0, 80);

        sentence("6: ROWS that did not come leave room");
        Rows y = late();
        y.source(0);
        y.bound(0, STOP);
        due(y.row(1, 0, 1, 0), NO);
        for (int n = 0; n < 300; n++) due(y.row(0, 0, 600, n), 1);
        due(y.row(0, 0, 600, 0), FULL);
    }

    /** An object with so many windows of operator 0, which is FIXED of SIZE 1, all of key 0. */
    private static Rows withWindows(int windows, int kind, int size, int step) {
        Rows x = with(FIXED, 1, 1, 0, 0);
        due(x.operator(kind, size, step, 0, 0), 1);
        due(x.source(1), 1);
        for (int n = 0; n < windows; n++) due(x.row(0, 0, n, n), 1);
        return x;
    }

    private static void promise6Windows() {
        sentence("6: FULL: it would be USED, and there would be more than 120 WINDOWS then (FIXED)");
        Rows x = withWindows(119, FIXED, 10, 1);
        due(x.row(1, 0, 5, 1), 1);
        due(x.count(3), 120);
        due(x.row(1, 0, 10, 1), FULL);
        due(x.row(0, 1, 0, 1), FULL);
        due(x.count(2), 120);
        due(x.of(1, 4), 1);

        sentence("6: not FULL: into WINDOWS that are there");
        due(x.row(1, 0, 9, 1), 1);
        due(x.row(0, 0, 0, 1), 1);
        due(x.count(3), 120);

        sentence("6: not FULL: it goes ASIDE");
        x.promise(1, 5);
        due(x.source(1), 2);
        due(x.operator(FIXED, 1, 1, 0, 0), 2);
        x.source(2);
        x.promise(3, 100);
        due(x.row(3, 0, 99, 1), 0);
        due(x.row(3, 0, 100, 1), FULL);
        due(x.count(6), 1);

        sentence("6: NO before FULL of WINDOWS: it becomes STOPPED by this");
        x.take();
        x.bound(0, STOP);
        due(x.row(3, 0, 100, 1), FULL);
        due(x.of(3, 3), 0);
        due(x.row(3, 0, 99, 1), NO);
        due(x.of(3, 3), 1);

        sentence("6: WINDOWS that went leave room");
        due(x.promise(0, 1), 1);
        due(x.count(3), 119);
        due(x.row(0, 1, 1, 1), 1);
        due(x.count(3), 120);
    }

    private static void promise6WindowsOfSliding() {
        sentence("6: FULL: more than 120 WINDOWS (SLIDING: eight at once fit)");
        Rows x = withWindows(112, SLIDING, 8, 1);
        due(x.row(1, 0, 50, 1), 1);
        due(x.count(3), 120);

        sentence("6: FULL: more than 120 WINDOWS (SLIDING: seven of eight fit, so none is made)");
        Rows y = withWindows(113, SLIDING, 8, 1);
        due(y.row(1, 0, 50, 1), FULL);
        due(y.count(3), 113);
        due(y.window(1, 0, 0, 0), NONE);

        sentence("6: SLIDING: those that are there need no room");
        Rows z = withWindows(109, SLIDING, 8, 1);
        due(z.row(1, 0, 50, 1), 1);
        due(z.row(1, 0, 54, 1), FULL);
        due(z.row(1, 0, 53, 1), 1);
        due(z.count(3), 120);
        due(z.row(1, 0, 49, 1), FULL);
        due(z.row(1, 0, 50, 1), 1);

        sentence("6: SLIDING: those that are CLOSED need no room");
        Rows c = withWindows(117, SLIDING, 8, 1);
        due(c.promise(1, 55), 0);
        due(c.row(1, 0, 51, 1), FULL);
        due(c.row(1, 0, 50, 1), 1);
        due(c.count(3), 120);
        dueAll(c.spans(1, 0), 48, 56, 49, 57, 50, 58);
    }

    private static void promise6WindowsOfGaps() {
        sentence("6: FULL: more than 120 WINDOWS (GAPS)");
        Rows x = withWindows(117, GAPS, 10, 1);
        due(x.row(1, 0, 3, 1), 1);
        due(x.row(1, 0, 18, 2), 1);
        due(x.row(1, 0, 43, 4), 1);
        due(x.count(3), 120);
        due(x.row(1, 0, 53, 8), FULL);
        due(x.row(1, 0, 33, 8), FULL);
        due(x.row(1, 1, 3, 8), FULL);

        sentence("6: JOINED ones are no more");
        due(x.row(1, 0, 52, 8), 1);
        due(x.row(1, 0, 34, 8), 1);
        due(x.count(3), 120);
        dueAll(x.spans(1, 0), 3, 13, 18, 28, 34, 62);
        due(x.row(1, 0, 12, 16), 1);
        due(x.count(3), 119);
        dueAll(x.spans(1, 0), 3, 28, 34, 62);
        due(x.row(1, 1, 3, 8), 1);
        due(x.count(3), 120);
        due(x.row(1, 1, 13, 8), FULL);
    }

    private static void promise7() {
        Rows x = with(FIXED, 10, 1, 0, 0);
        x.operator(FIXED, 7, 1, 0, 0);
        x.source(1);
        x.row(1, 6, 8, -3);
        x.row(1, 6, 9, 5);
        sentence("7: NONE: none such (no RESULT yet)");
        due(x.result(0, 0), NONE);
        x.promise(1, 14);
        sentence("7: 0 its sign, 1 OPERATOR, 2 KEY, 3 begin, 4 end, 5 how many, 6 sum, 7 least, 8 greatest");
        dueAll(x.result(0), 1, 1, 6, 7, 14, 2, 2, -3, 5);
        sentence("7: NONE: none such");
        for (int i : new int[] {-1, 1, 399, 400, LEAST_INT, GREATEST_INT}) due(x.result(i, 0), NONE);
        sentence("7: NONE: or what");
        for (int what : new int[] {-1, 9, 10, LEAST_INT, GREATEST_INT}) due(x.result(0, what), NONE);
    }

    private static void promise8() {
        Rows x = late();
        x.source(0);
        sentence("8: NONE: none such (no ROW ASIDE yet)");
        due(x.aside(0, 0), NONE);
        sentence("8: (It may be these numbers, too.)");
        int[] numbers = {NONE, BAD, NO, FULL, 0, LEAST_INT, GREATEST_INT};
        for (int n = 0; n < numbers.length; n++) due(x.row(1, 9 - n, 499 - n, numbers[n]), 0);
        sentence("8: 0 its SOURCE, 1 KEY, 2 time, 3 number, 4 why (1, 2)");
        for (int n = 0; n < numbers.length; n++) dueAll(x.aside(n), 1, 9 - n, 499 - n, numbers[n], 1);
        sentence("8: NONE: none such");
        for (int i : new int[] {-1, 7, 99, 100, LEAST_INT, GREATEST_INT}) due(x.aside(i, 0), NONE);
        sentence("8: NONE: or what");
        for (int what : new int[] {-1, 5, 6, LEAST_INT, GREATEST_INT}) due(x.aside(0, what), NONE);
    }

    private static void promise9() {
        sentence("9: what is ASIDE is TAKEN (gone): how many ROWS (none)");
        Rows x = late();
        due(x.take(), 0);
        sentence("9: how many ROWS (100)");
        for (int n = 0; n < 101; n++) x.row(0, 0, n, n);
        due(x.take(), 100);
        due(x.count(6), 0);
        due(x.aside(0, 0), NONE);
        due(x.take(), 0);
        due(x.count(7), 1);
        due(x.of(0, 5), 101);
        sentence("9: ROWS behind that lie ASIDE from 0 on, BOUND of them");
        for (int n = 0; n < 100; n++) due(x.row(0, 1, n, -n), 0);
        due(x.count(7), 1);
        dueAll(x.aside(0), 0, 1, 0, 0, 1);
        dueAll(x.aside(99), 0, 1, 99, -99, 1);
        due(x.take(), 100);

        sentence("9: no SOURCE is STOPPED any more (of any OPERATOR, with nothing ASIDE)");
        Rows y = late();
        y.operator(FIXED, 1, 1, 0, 0);
        for (int i = 1; i < 10; i++) y.source(i % 2);
        for (int i = 1; i < 10; i += 2) y.promise(i, 500);
        y.bound(0, STOP);
        for (int i = 0; i < 10; i++) due(y.row(i, 0, 1, 1), NO);
        for (int i = 0; i < 10; i++) due(y.of(i, 3), 1);
        due(y.take(), 0);
        for (int i = 0; i < 10; i++) due(y.of(i, 3), 0);
        due(y.row(9, 0, 600, 1), 1);
    }

    private static void promise10() {
        Rows x = late();
        sentence("10: BAD: n is not 0 .. 100");
        for (int n : new int[] {-1, 101, LEAST_INT, GREATEST_INT}) due(x.bound(n, DROP), BAD);
        sentence("10: BAD: no rule");
        for (int rule : new int[] {-1, 2, LEAST_INT, GREATEST_INT}) due(x.bound(50, rule), BAD);
        sentence("10: BOUND and rule: how many ROWS are ASIDE");
        due(x.bound(0, DROP), 0);
        due(x.bound(100, STOP), 0);
        due(x.bound(3, DROP), 0);
        for (int n = 0; n < 3; n++) x.row(0, 0, n, n);
        sentence("10: NO: more are ASIDE");
        due(x.bound(2, STOP), NO);
        due(x.bound(0, DROP), NO);
        sentence("10: as many are ASIDE");
        due(x.bound(3, DROP), 3);
        due(x.row(0, 0, 3, 3), 0);
        due(x.count(6), 3);
        due(x.count(7), 1);
        due(x.bound(3, STOP), 3);
        due(x.row(0, 0, 4, 4), NO);
        sentence("10: a greater BOUND leaves room");
        x.take();
        due(x.bound(1, STOP), 0);
        due(x.row(0, 0, 4, 4), 0);
        due(x.bound(2, STOP), 1);
        due(x.row(0, 0, 5, 5), 0);
        due(x.row(0, 0, 6, 6), NO);
        sentence("10: BOUND 100, the greatest, with STOP");
        Rows y = late();
        due(y.bound(100, STOP), 0);
        for (int n = 0; n < 100; n++) due(y.row(0, 0, n, n), 0);
        due(y.row(0, 0, 100, 100), NO);
        due(y.bound(99, STOP), NO);
        due(y.bound(100, DROP), 100);
    }

    private static void promise11() {
        Rows x = late();
        x.operator(FIXED, 10, 1, 0, 0);
        x.source(1);
        sentence("11: of a SOURCE (a new one)");
        dueAll(x.of(1), 1, 0, 0, 0, 0, 0, 0, NONE);
        sentence("11: 4 ROWS USED, 5 ROWS ASIDE in all (dropped and TAKEN ones, too)");
        x.bound(1, DROP);
        for (int n = 0; n < 3; n++) x.row(0, 0, 490 + n, n);
        x.take();
        x.row(0, 0, 500, 1);
        x.row(0, 0, 501, 1);
        due(x.of(0, 4), 2);
        due(x.of(0, 5), 3);
        due(x.count(6), 0);
        sentence("11: 6 how often its PROMISE was BROKEN, 7 the time of the first such ROW");
        due(x.of(0, 6), 3);
        due(x.of(0, 7), 490);
        sentence("11: 7 the time of the first such ROW (time 0)");
        x.promise(1, 1);
        due(x.row(1, 0, 0, 1), 1);
        due(x.of(1, 6), 1);
        due(x.of(1, 7), 0);
        sentence("11: NONE: none such");
        for (int source : new int[] {-1, 2, 9, 10, LEAST_INT, GREATEST_INT}) due(x.of(source, 0), NONE);
        sentence("11: NONE: or what");
        for (int what : new int[] {-1, 8, LEAST_INT, GREATEST_INT}) due(x.of(0, what), NONE);
    }

    private static void promise12() {
        Rows x = late();
        sentence("12: an OPERATOR's MARK");
        due(x.mark(0), 500);
        sentence("12: BAD: no such OPERATOR");
        for (int operator : new int[] {-1, 1, 4, 5, LEAST_INT, GREATEST_INT}) due(x.mark(operator), BAD);
    }

    private static void promise13() {
        Rows x = with(FIXED, 10, 1, 100, 0);
        x.operator(FIXED, 10, 1, 0, 0);
        x.source(1);
        x.row(0, 0, 30, 1);
        x.row(0, 0, 10, 2);
        x.row(0, 0, 20, 4);
        x.row(0, 9, 0, 8);
        x.row(1, 0, 40, 16);
        x.promise(0, 20);
        sentence("13: of the i-th WINDOW of an OPERATOR and KEY, by begins");
        dueAll(x.window(0, 0, 0), 10, 20, 1, 1, 2, 2, 2);
        dueAll(x.window(0, 0, 1), 20, 30, 0, 1, 4, 4, 4);
        dueAll(x.window(0, 0, 2), 30, 40, 0, 1, 1, 1, 1);
        dueAll(x.window(0, 9, 0), 0, 10, 1, 1, 8, 8, 8);
        dueAll(x.window(1, 0, 0), 40, 50, 0, 1, 16, 16, 16);
        sentence("13: NONE: none such");
        for (int i : new int[] {-1, 3, 119, 120, LEAST_INT, GREATEST_INT}) due(x.window(0, 0, i, 0), NONE);
        for (int i : new int[] {-1, 1, LEAST_INT, GREATEST_INT}) due(x.window(0, 9, i, 0), NONE);
        for (int i : new int[] {-1, 1}) due(x.window(1, 0, i, 0), NONE);
        for (int key : new int[] {-1, 1, 8, 10, LEAST_INT, GREATEST_INT}) due(x.window(0, key, 0, 0), NONE);
        for (int operator : new int[] {-1, 2, 5, LEAST_INT, GREATEST_INT}) due(x.window(operator, 0, 0, 0), NONE);
        sentence("13: NONE: or what");
        for (int what : new int[] {-1, 7, LEAST_INT, GREATEST_INT}) due(x.window(0, 0, 0, what), NONE);
        sentence("13: a WINDOW that went is none");
        x.promise(1, 50);
        due(x.window(1, 0, 0, 0), NONE);

        sentence("13: the last of 120 WINDOWS");
        Rows y = with(FIXED, 1, 1, 0, 0);
        for (int n = 119; n >= 0; n--) y.row(0, 9, 3 * n, n);
        dueAll(y.window(0, 9, 0), 0, 1, 0, 1, 0, 0, 0);
        dueAll(y.window(0, 9, 119), 357, 358, 0, 1, 119, 119, 119);
        due(y.window(0, 9, 120, 0), NONE);
    }

    private static void promise14() {
        Rows x = late();
        x.operator(FIXED, 10, 1, 0, 0);
        x.source(1);
        sentence("14: ONE PASS over no ROWS");
        due(x.pass(0, false), 0);
        due(x.pass(0, true), 0);
        x.row(0, 0, 1, 1);
        due(x.pass(0, false), 0);
        due(x.pass(0, true), 1);
        sentence("14: BAD: no such OPERATOR (the latest ONE PASS stays)");
        for (int operator : new int[] {-1, 2, 5, LEAST_INT, GREATEST_INT}) due(x.pass(operator, true), BAD);
        due(x.count(8), 1);
        dueAll(x.passed(0), 0, 1, 2, 1, 1, 1, 1);
        sentence("14: over ROWS of an OPERATOR (of all its SOURCES, of no other)");
        x.source(0);
        x.row(2, 0, 1, 2);
        x.row(1, 0, 1, 4);
        due(x.pass(0, true), 1);
        dueAll(x.passed(0), 0, 1, 2, 2, 3, 1, 2);
        due(x.pass(1, true), 1);
        dueAll(x.passed(0), 0, 0, 10, 1, 4, 4, 4);
        sentence("14: ONE PASS changes no WINDOW and tells nothing");
        dueAll(x.counts(), 2, 3, 3, 1, 0, 0, 2, 0, 1);
    }

    private static void promise15() {
        Rows x = late();
        sentence("15: NONE: none such (no ONE PASS yet)");
        x.row(0, 0, 600, 1);
        due(x.passed(0, 0), NONE);
        due(x.count(8), 0);
        sentence("15: of the latest ONE PASS (a ROW that comes behind it is not in it)");
        x.pass(0, false);
        x.row(0, 0, 600, 2);
        x.row(0, 0, 601, 2);
        due(x.count(8), 1);
        dueAll(x.passed(0), 0, 600, 601, 1, 1, 1, 1);
        sentence("15: NONE: none such");
        x.pass(0, false);
        dueAll(x.passed(1), 0, 601, 602, 1, 2, 2, 2);
        for (int i : new int[] {-1, 2, 2400, LEAST_INT, GREATEST_INT}) due(x.passed(i, 0), NONE);
        sentence("15: NONE: or what");
        for (int what : new int[] {-1, 7, LEAST_INT, GREATEST_INT}) due(x.passed(0, what), NONE);
        sentence("15: a lesser ONE PASS leaves nothing of the one before it");
        x.operator(FIXED, 10, 1, 0, 0);
        due(x.pass(1, true), 0);
        due(x.passed(0, 0), NONE);
        due(x.passed(1, 0), NONE);

        sentence("15: the most WINDOWS that 300 ROWS can belong into");
        Rows y = with(SLIDING, 8, 1, 0, 0);
        y.promise(0, 999999999);
        for (int n = 299; n >= 0; n--) due(y.row(0, n % 10, 10 * n, n), 0);
        due(y.pass(0, true), 2400);
        due(y.count(8), 2400);
        dueAll(y.passed(0), 0, -7, 1, 1, 0, 0, 0);
        dueAll(y.passed(239), 0, 2900, 2908, 1, 290, 290, 290);
        dueAll(y.passed(240), 1, 3, 11, 1, 1, 1, 1);
        dueAll(y.passed(2399), 9, 2990, 2998, 1, 299, 299, 299);
        due(y.passed(2400, 0), NONE);
        due(y.pass(0, false), 0);
    }

    private static void promise16() {
        sentence("16: how many: 0 to 8");
        Rows x = with(FIXED, 10, 1, 0, 0);
        x.operator(FIXED, 10, 1, 0, 0);
        x.source(1);
        x.source(0);
        x.source(1);
        x.end(2);
        x.row(0, 0, 5, 1);
        x.row(0, 1, 5, 1);
        x.row(0, 0, 15, 1);
        x.row(0, 0, 25, 1);
        x.promise(0, 10);
        x.bound(1, DROP);
        for (int n = 0; n < 4; n++) x.row(0, 0, n, 1);
        x.pass(0, false);
        dueAll(x.counts(), 2, 4, 8, 2, 2, 2, 1, 3, 4);
        sentence("16: BAD: another what");
        for (int what : new int[] {-1, 9, LEAST_INT, GREATEST_INT}) due(x.count(what), BAD);
    }

    private static void lastCalls() {
        sentence("What it is: an object is used for at most 512 calls after it has been made");
        Rows x = with(FIXED, 10, 1, 5, 0);
        for (int n = 0; n < 507; n++) due(x.row(0, 0, n % 10, n), n < 300 ? 1 : FULL);
        due(x.promise(0, 10), 1);
        due(x.count(5), 1);
        due(x.result(0, 6), 44850);
    }

    public static void main(String[] args) {
        constants();
        firstOfSeveral();
        firstOfSeveralForRows();
        operatorsAndSources();
        markOfSources();
        markThatEndMovesTo();
        rowNumbers();
        brokenPromises();
        fixedWindows();
        slidingWindows();
        gapsWindows();
        gapsOfEdgeSizes();
        closedFixed();
        closedSliding();
        closedGaps();
        ruleTwo();
        ruleTwoOfGaps();
        whatAWindowHas();
        told();
        ruleZero();
        ruleOne();
        joinedWindowsAreNoMore();
        joinedWithWhatChanged();
        joinedBesideOthers();
        orderWhenTheMarkMoves();
        keptResults();
        boundedAside();
        stoppedSources();
        onePass();
        onePassOfGaps();
        promise1();
        promise2();
        promise3();
        promise4();
        promise5();
        promise6Refused();
        promise6Rows();
        promise6Windows();
        promise6WindowsOfSliding();
        promise6WindowsOfGaps();
        promise7();
        promise8();
        promise9();
        promise10();
        promise11();
        promise12();
        promise13();
        promise14();
        promise15();
        promise16();
        lastCalls();
        System.out.println(wrong == 0 ? "all answers are as due" : wrong + " answers are not as due");
        if (wrong != 0) System.exit(1);
    }
}
