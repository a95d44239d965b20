/** Rows of streams that come behind their mark; DOC.md tells what each call promises. */
public final class LateRows {
    public static final int BAD = -1, NO = -2, FULL = -3, NONE = -99999999;

    private static final int SLIDING = 1, GAPS = 2, LAST_KIND = 2;
    private static final int TELL_ANEW_WHEN_GOING = 1, NEVER_TELL_ANEW = 2, LAST_RULE = 2;
    private static final int DROP = 0, STOP = 1;
    private static final int IN_TIME = 0, TOO_LATE = 1, AFTER_TELLING = 2;
    private static final int MOST_OPERATORS = 5, MOST_SOURCES = 10, MOST_ROWS = 300;
    private static final int MOST_WINDOWS = 120, MOST_RESULTS = 400, MOST_ASIDE = 100;
    private static final int MOST_OVERLAPS = 8;
    private static final int LAST_KEY = 9, LAST_TIME = 100000000, LAST_PROMISE = 999999999;
    private static final int LONGEST = 1000000, MARK_OF_ALL_ENDED = 1000000000;
    private static final int RESULT_WIDTH = 9, ASIDE_WIDTH = 5, PASSED_WIDTH = 7;

    private final Operator[] operators = new Operator[MOST_OPERATORS];
    private int operatorCount = 0;
    private final Source[] sources = new Source[MOST_SOURCES];
    private int sourceCount = 0;
    private final RowLog rows = new RowLog();
    private final WindowList windows = new WindowList();
    private final Join join = new Join();
    private final Ring results = new Ring(MOST_RESULTS, RESULT_WIDTH);
    private int resultsInAll = 0;
    private final Ring asideRows = new Ring(MOST_ASIDE, ASIDE_WIDTH);
    private int asideBound = MOST_ASIDE;
    private int asideRule = DROP;
    private int droppedInAll = 0;
    private final OnePass onePass = new OnePass();

    public LateRows() {
    }

    public int operator(int kind, int size, int step, int lateness, int rule) {
        if (!isWithin(kind, 0, LAST_KIND) || !isWithin(rule, 0, LAST_RULE)) {
            return BAD;
        }
        if (!isWithin(size, 1, LONGEST) || !isWithin(step, 1, LONGEST) || !isWithin(lateness, 0, LONGEST)) {
            return BAD;
        }
        if (kind == SLIDING && (step > size || size > MOST_OVERLAPS * step)) {
            return BAD;
        }
        if (operatorCount >= MOST_OPERATORS) {
            return FULL;
        }
        operators[operatorCount] = new Operator(operatorCount, kind, size, step, lateness, rule);
        operatorCount++;
        return operatorCount - 1;
    }

    public int source(int operator) {
        Operator owner = operatorAt(operator);
        if (owner == null) {
            return BAD;
        }
        if (owner.mark == MARK_OF_ALL_ENDED) {
            return NO;
        }
        if (sourceCount >= MOST_SOURCES) {
            return FULL;
        }
        sources[sourceCount] = new Source(sourceCount, owner);
        sourceCount++;
        return sourceCount - 1;
    }

    public int promise(int source, int t) {
        Source from = sourceAt(source);
        if (from == null || !isWithin(t, 0, LAST_PROMISE)) {
            return BAD;
        }
        if (from.promise > t || from.ended) {
            return NO;
        }
        from.promise = t;
        return moveMark(from.owner);
    }

    public int end(int source) {
        Source from = sourceAt(source);
        if (from == null) {
            return BAD;
        }
        if (from.ended) {
            return NO;
        }
        from.ended = true;
        return moveMark(from.owner);
    }

    public int row(int source, int key, int time, int v) {
        Source from = sourceAt(source);
        if (from == null || !isWithin(key, 0, LAST_KEY) || !isWithin(time, 0, LAST_TIME)) {
            return BAD;
        }
        if (from.ended || from.stopped) {
            return NO;
        }
        if (rows.size >= MOST_ROWS) {
            return FULL;
        }
        if (from.owner.kind == GAPS) {
            // judging, counting and using the row all look at this one join
            windows.gather(join, from.owner, key, time);
        }
        int why = judge(from.owner, time);
        if (why != IN_TIME) {
            return layAside(from, key, time, v, why);
        }
        if (windows.size + countNewWindows(from.owner, key, time) > MOST_WINDOWS) {
            return FULL;
        }
        from.noteRow(time, true);
        rows.add(from, key, time, v, true);
        if (from.owner.kind == GAPS) {
            useInGaps(from.owner, key, v);
        } else {
            useInGrid(from.owner, key, time, v);
        }
        return 1;
    }

    public long result(int i, int what) {
        return results.get(i, what);
    }

    public int aside(int i, int what) {
        return (int) asideRows.get(i, what);
    }

    public int take() {
        int taken = asideRows.size;
        asideRows.clear();
        for (int i = 0; i < sourceCount; i++) {
            sources[i].stopped = false;
        }
        return taken;
    }

    public int bound(int n, int rule) {
        if (!isWithin(n, 0, MOST_ASIDE) || !isWithin(rule, DROP, STOP)) {
            return BAD;
        }
        if (asideRows.size > n) {
            return NO;
        }
        asideBound = n;
        asideRule = rule;
        return asideRows.size;
    }

    public int of(int source, int what) {
        Source from = sourceAt(source);
        if (from == null) {
            return NONE;
        }
        switch (what) {
            case 0: return from.owner.number;
            case 1: return from.promise;
            case 2: return from.ended ? 1 : 0;
            case 3: return from.stopped ? 1 : 0;
            case 4: return from.rowsUsed;
            case 5: return from.rowsAside;
            case 6: return from.timesBroken;
            case 7: return from.firstBroken;
            default: return NONE;
        }
    }

    public int mark(int operator) {
        Operator owner = operatorAt(operator);
        return owner == null ? BAD : owner.mark;
    }

    public long window(int operator, int key, int i, int what) {
        Window w = windows.find(operator, key, i);
        if (w == null) {
            return NONE;
        }
        switch (what) {
            case 0: return w.begin;
            case 1: return w.end;
            case 2: return w.told ? 1 : 0;
            case 3: return w.has.count;
            case 4: return w.has.sum;
            case 5: return w.has.least;
            case 6: return w.has.greatest;
            default: return NONE;
        }
    }

    public int pass(int operator, boolean all) {
        Operator owner = operatorAt(operator);
        if (owner == null) {
            return BAD;
        }
        onePass.clear();
        for (int i = 0; i < rows.size; i++) {
            Row row = rows.inOrder(i);
            if (row != null && row.from.owner == owner && (all || row.used)) {
                onePass.add(owner, row);
            }
        }
        return onePass.size;
    }

    public long passed(int i, int what) {
        return onePass.get(i, what);
    }

    public int count(int what) {
        switch (what) {
            case 0: return operatorCount;
            case 1: return sourceCount;
            case 2: return rows.size;
            case 3: return windows.size;
            case 4: return results.size;
            case 5: return resultsInAll;
            case 6: return asideRows.size;
            case 7: return droppedInAll;
            case 8: return onePass.size;
            default: return BAD;
        }
    }

    private static boolean isWithin(int n, int least, int greatest) {
        return n >= least && n <= greatest;
    }

    private Operator operatorAt(int number) {
        return number >= 0 && number < operatorCount ? operators[number] : null;
    }

    private Source sourceAt(int number) {
        return number >= 0 && number < sourceCount ? sources[number] : null;
    }

    /** Brings the mark to where the promises allow it; answers how many results came of that. */
    private int moveMark(Operator operator) {
        int before = resultsInAll;
        int least = leastPromise(operator);
        if (least > operator.mark) {
            operator.mark = least;
            tellAllDue(operator);
            letClosedGo(operator);
        }
        return resultsInAll - before;
    }

    private int leastPromise(Operator operator) {
        int least = MARK_OF_ALL_ENDED;
        for (int i = 0; i < sourceCount; i++) {
            if (sources[i].owner == operator && !sources[i].ended) {
                least = Math.min(least, sources[i].promise);
            }
        }
        return least;
    }

    private void tellAllDue(Operator operator) {
        for (int n = 0; n < MOST_WINDOWS; n++) {
            Window w = windows.at(windows.nextDue(operator));
            if (w == null) {
                return;
            }
            tell(w);
        }
    }

    private void letClosedGo(Operator operator) {
        for (int n = 0; n < MOST_WINDOWS; n++) {
            int i = windows.nextClosed(operator);
            Window w = windows.at(i);
            if (w == null) {
                return;
            }
            // only TELL_ANEW_WHEN_GOING leaves a change untold until now
            if (w.changed) {
                tell(w);
            }
            windows.remove(i);
        }
    }

    /** A window that was told before is taken back first, with the numbers of then. */
    private void tell(Window w) {
        if (w.told) {
            keepResult(-1, w);
        }
        w.toldLast.copy(w.has);
        w.told = true;
        w.changed = false;
        keepResult(1, w);
    }

    private void keepResult(int sign, Window w) {
        results.open();
        results.set(0, sign);
        results.set(1, w.operator);
        results.set(2, w.key);
        results.set(3, w.begin);
        results.set(4, w.end);
        results.set(5, w.toldLast.count);
        results.set(6, w.toldLast.sum);
        results.set(7, w.toldLast.least);
        results.set(8, w.toldLast.greatest);
        resultsInAll++;
    }

    private int judge(Operator operator, int time) {
        return operator.kind == GAPS ? judgeInGaps(operator) : judgeInGrid(operator, time);
    }

    private int judgeInGaps(Operator operator) {
        if (operator.closes(join.end)) {
            return TOO_LATE;
        }
        boolean told = operator.hasReached(join.end) || join.told;
        return told && operator.rule == NEVER_TELL_ANEW ? AFTER_TELLING : IN_TIME;
    }

    private static int judgeInGrid(Operator operator, int time) {
        boolean allClosed = true;
        boolean told = false;
        int begin = operator.firstBegin(time);
        for (int n = 0; n < MOST_OVERLAPS && begin <= time; n++) {
            int end = begin + operator.size;
            if (!operator.closes(end)) {
                allClosed = false;
                told = told || operator.hasReached(end);
            }
            begin += operator.stride;
        }
        if (allClosed) {
            return TOO_LATE;
        }
        return told && operator.rule == NEVER_TELL_ANEW ? AFTER_TELLING : IN_TIME;
    }

    private int layAside(Source from, int key, int time, int v, int why) {
        boolean full = asideRows.size >= asideBound;
        if (full && asideRule == STOP) {
            from.stopped = true;
            return NO;
        }
        from.noteRow(time, false);
        rows.add(from, key, time, v, false);
        if (full) {
            droppedInAll++;
            asideRows.dropEldest();
        }
        if (asideBound > 0) {
            keepAside(from, key, time, v, why);
        }
        return 0;
    }

    private void keepAside(Source from, int key, int time, int v, int why) {
        asideRows.open();
        asideRows.set(0, from.number);
        asideRows.set(1, key);
        asideRows.set(2, time);
        asideRows.set(3, v);
        asideRows.set(4, why);
    }

    private int countNewWindows(Operator operator, int key, int time) {
        if (operator.kind == GAPS) {
            return 1 - join.size;
        }
        int added = 0;
        int begin = operator.firstBegin(time);
        for (int n = 0; n < MOST_OVERLAPS && begin <= time; n++) {
            if (!operator.closes(begin + operator.size) && !windows.has(operator.number, key, begin)) {
                added++;
            }
            begin += operator.stride;
        }
        return added;
    }

    private void useInGrid(Operator operator, int key, int time, int v) {
        int begin = operator.firstBegin(time);
        for (int n = 0; n < MOST_OVERLAPS && begin <= time; n++) {
            int end = begin + operator.size;
            if (!operator.closes(end)) {
                comeInto(operator, windows.findOrOpen(operator.number, key, begin, end), v);
            }
            begin += operator.stride;
        }
    }

    private void useInGaps(Operator operator, int key, int v) {
        Window first = windows.at(join.first);
        if (join.size == 0 || first == null) {
            comeInto(operator, windows.findOrOpen(operator.number, key, join.begin, join.end), v);
            return;
        }
        if (first.begin != join.begin || first.end != join.end) {
            takeBackJoined();
            mergeJoined(first);
        }
        comeInto(operator, first, v);
    }

    private void takeBackJoined() {
        for (int n = 0; n < join.size; n++) {
            Window w = windows.at(join.first + n);
            if (w != null && w.told) {
                keepResult(-1, w);
            }
        }
    }

    /** The first of the joined stands for the new window from here on, as one that was never told. */
    private void mergeJoined(Window first) {
        for (int n = join.size - 1; n > 0; n--) {
            Window w = windows.at(join.first + n);
            if (w != null) {
                first.has.addAll(w.has);
                windows.remove(join.first + n);
            }
        }
        first.begin = join.begin;
        first.end = join.end;
        first.told = false;
        first.changed = false;
    }

    private void comeInto(Operator operator, Window w, int v) {
        if (w == null) {
            return;
        }
        w.has.add(v);
        if (w.told && operator.rule == TELL_ANEW_WHEN_GOING) {
            w.changed = true;
        } else if (operator.hasReached(w.end)) {
            tell(w);
        }
    }

    private static final class Operator {
        final int number;
        final int kind;
        final int size;
        final int stride;
        final int lateness;
        final int rule;
        int mark = 0;

        Operator(int number, int kind, int size, int step, int lateness, int rule) {
            this.number = number;
            this.kind = kind;
            this.size = size;
            // a fixed window is a sliding one that steps by its own size
            this.stride = kind == SLIDING ? step : size;
            this.lateness = lateness;
            this.rule = rule;
        }

        boolean hasReached(int end) {
            return end <= mark;
        }

        boolean closes(int end) {
            return end + lateness <= mark;
        }

        /** The least begin of the windows, fixed or sliding, that have this time in them. */
        int firstBegin(int time) {
            if (stride < 1) {
                return time;
            }
            return (Math.floorDiv(time - size, stride) + 1) * stride;
        }
    }

    private static final class Source {
        final int number;
        final Operator owner;
        int promise = 0;
        boolean ended = false;
        boolean stopped = false;
        int rowsUsed = 0;
        int rowsAside = 0;
        int timesBroken = 0;
        int firstBroken = NONE;

        Source(int number, Operator owner) {
            this.number = number;
            this.owner = owner;
        }

        void noteRow(int time, boolean used) {
            if (used) {
                rowsUsed++;
            } else {
                rowsAside++;
            }
            if (time < promise) {
                if (timesBroken == 0) {
                    firstBroken = time;
                }
                timesBroken++;
            }
        }
    }

    /** What a window has. */
    private static final class Tally {
        int count = 0;
        long sum = 0;
        int least = 0;
        int greatest = 0;

        void clear() {
            count = 0;
            sum = 0;
            least = 0;
            greatest = 0;
        }

        void copy(Tally other) {
            count = other.count;
            sum = other.sum;
            least = other.least;
            greatest = other.greatest;
        }

        void add(int v) {
            least = count == 0 ? v : Math.min(least, v);
            greatest = count == 0 ? v : Math.max(greatest, v);
            sum += v;
            count++;
        }

        /** Both have something: a window is never without a row. */
        void addAll(Tally other) {
            least = Math.min(least, other.least);
            greatest = Math.max(greatest, other.greatest);
            sum += other.sum;
            count += other.count;
        }
    }

    private static final class Window {
        int operator = 0;
        int key = 0;
        int begin = 0;
        int end = 0;
        boolean told = false;
        boolean changed = false;
        final Tally has = new Tally();
        final Tally toldLast = new Tally();

        void start(int operator, int key, int begin, int end) {
            this.operator = operator;
            this.key = key;
            this.begin = begin;
            this.end = end;
            told = false;
            changed = false;
            has.clear();
            toldLast.clear();
        }

        boolean belongsTo(int operator, int key) {
            return this.operator == operator && this.key == key;
        }

        boolean standsBefore(int operator, int key, int begin) {
            if (this.operator != operator) {
                return this.operator < operator;
            }
            return this.key != key ? this.key < key : this.begin < begin;
        }
    }

    /** What a row of GAPS would make: the windows it is joined with stand side by side in the list. */
    private static final class Join {
        int first = 0;
        int size = 0;
        int begin = 0;
        int end = 0;
        boolean told = false;

        void start(int begin, int end, int first) {
            this.first = first;
            this.begin = begin;
            this.end = end;
            size = 0;
            told = false;
        }

        void add(Window w) {
            size++;
            begin = Math.min(begin, w.begin);
            end = Math.max(end, w.end);
            told = told || w.told;
        }
    }

    /** The windows that are there, by operators, keys, begins; behind them those to be used again. */
    private static final class WindowList {
        private final Window[] windows = new Window[MOST_WINDOWS];
        int size = 0;

        WindowList() {
            for (int i = 0; i < windows.length; i++) {
                windows[i] = new Window();
            }
        }

        Window at(int i) {
            return i >= 0 && i < size ? windows[i] : null;
        }

        Window find(int operator, int key, int i) {
            if (i < 0 || i >= size) {
                return null;
            }
            // no row has a time below 0, so that every begin is above -LONGEST
            Window w = at(placeOf(operator, key, -LONGEST) + i);
            return w != null && w.belongsTo(operator, key) ? w : null;
        }

        boolean has(int operator, int key, int begin) {
            return holds(placeOf(operator, key, begin), operator, key, begin);
        }

        Window findOrOpen(int operator, int key, int begin, int end) {
            int place = placeOf(operator, key, begin);
            if (!holds(place, operator, key, begin)) {
                open(place, operator, key, begin, end);
            }
            return at(place);
        }

        void remove(int i) {
            Window gone = at(i);
            if (gone == null) {
                return;
            }
            size--;
            for (int j = i; j < size; j++) {
                windows[j] = windows[j + 1];
            }
            windows[size] = gone;
        }

        /** The untold window whose end the mark has reached that comes first by ends, keys, begins. */
        int nextDue(Operator operator) {
            int next = -1;
            for (int i = 0; i < size; i++) {
                Window w = windows[i];
                if (w.operator == operator.number && !w.told && operator.hasReached(w.end) && endsBefore(w, next)) {
                    next = i;
                }
            }
            return next;
        }

        int nextClosed(Operator operator) {
            int next = -1;
            for (int i = 0; i < size; i++) {
                Window w = windows[i];
                if (w.operator == operator.number && operator.closes(w.end) && endsBefore(w, next)) {
                    next = i;
                }
            }
            return next;
        }

        /** Windows of one key have no time in common, so that only these are joined: they touch no other. */
        void gather(Join join, Operator operator, int key, int time) {
            int end = time + operator.size;
            int first = placeOf(operator.number, key, time);
            Window earlier = at(first - 1);
            if (earlier != null && earlier.belongsTo(operator.number, key) && earlier.end > time) {
                first--;
            }
            join.start(time, end, first);
            for (int i = first; i < size; i++) {
                Window w = windows[i];
                if (!w.belongsTo(operator.number, key) || w.begin >= end) {
                    return;
                }
                join.add(w);
            }
        }

        private boolean endsBefore(Window w, int i) {
            // of equal ends the list's own order holds, which is by keys and begins
            return i < 0 || w.end < windows[i].end;
        }

        private boolean holds(int place, int operator, int key, int begin) {
            Window w = at(place);
            return w != null && w.belongsTo(operator, key) && w.begin == begin;
        }

        private int placeOf(int operator, int key, int begin) {
            int low = 0;
            int high = size;
            for (int n = 0; n < MOST_WINDOWS && low < high; n++) {
                int middle = (low + high) / 2;
                if (windows[middle].standsBefore(operator, key, begin)) {
                    low = middle + 1;
                } else {
                    high = middle;
                }
            }
            return low;
        }

        private void open(int place, int operator, int key, int begin, int end) {
            if (size >= windows.length) {
                return;
            }
            Window fresh = windows[size];
            fresh.start(operator, key, begin, end);
            for (int j = size; j > place; j--) {
                windows[j] = windows[j - 1];
            }
            windows[place] = fresh;
            size++;
        }
    }

    /** Records of numbers in the order they came; the eldest makes room when there is none. */
    private static final class Ring {
        private final int room;
        private final int width;
        private final long[] cells;
        private int eldest = 0;
        private int latest = 0;
        int size = 0;

        Ring(int room, int width) {
            this.room = Math.max(1, room);
            this.width = Math.max(1, width);
            cells = new long[this.room * this.width];
        }

        void open() {
            if (size >= room) {
                dropEldest();
            }
            latest = eldest + size < room ? eldest + size : eldest + size - room;
            size++;
        }

        /** Writes into the latest record. */
        void set(int column, long value) {
            if (column >= 0 && column < width) {
                cells[latest * width + column] = value;
            }
        }

        long get(int i, int column) {
            if (i < 0 || i >= size || column < 0 || column >= width) {
                return NONE;
            }
            int slot = eldest + i < room ? eldest + i : eldest + i - room;
            return cells[slot * width + column];
        }

        void dropEldest() {
            if (size > 0) {
                eldest = eldest + 1 < room ? eldest + 1 : 0;
                size--;
            }
        }

        void clear() {
            size = 0;
        }
    }

    private static final class Row {
        final Source from;
        final int key;
        final int time;
        final int v;
        final boolean used;

        Row(Source from, int key, int time, int v, boolean used) {
            this.from = from;
            this.key = key;
            this.time = time;
            this.v = v;
            this.used = used;
        }

        boolean standsAfter(int key, int time) {
            return this.key != key ? this.key > key : this.time > time;
        }
    }

    /** All rows that came, by keys and times, which is the order that one pass wants them in. */
    private static final class RowLog {
        private final Row[] rows = new Row[MOST_ROWS];
        int size = 0;

        void add(Source from, int key, int time, int v, boolean used) {
            if (size >= rows.length) {
                return;
            }
            int place = size;
            while (place > 0 && rows[place - 1].standsAfter(key, time)) {
                rows[place] = rows[place - 1];
                place--;
            }
            rows[place] = new Row(from, key, time, v, used);
            size++;
        }

        Row inOrder(int i) {
            return i >= 0 && i < size ? rows[i] : null;
        }
    }

    /** The windows of one pass; rows come into it by keys and times, so that only the latest windows can grow. */
    private static final class OnePass {
        private static final int MOST_PASSED = MOST_ROWS * MOST_OVERLAPS;
        private static final int KEY = 0, BEGIN = 1, END = 2, COUNT = 3, SUM = 4, LEAST = 5, GREATEST = 6;

        private final long[] cells = new long[MOST_PASSED * PASSED_WIDTH];
        int size = 0;

        void clear() {
            size = 0;
        }

        void add(Operator operator, Row row) {
            if (operator.kind == GAPS) {
                addToGaps(operator, row);
            } else {
                addToGrid(operator, row);
            }
        }

        long get(int i, int what) {
            if (i < 0 || i >= size || what < 0 || what >= PASSED_WIDTH) {
                return NONE;
            }
            return cells[i * PASSED_WIDTH + what];
        }

        private void addToGaps(Operator operator, Row row) {
            int end = row.time + operator.size;
            int latest = size - 1;
            if (latest >= 0 && get(latest, KEY) == row.key && row.time < get(latest, END)) {
                comeInto(latest, end, row.v);
            } else {
                open(row, row.time, end);
            }
        }

        private void addToGrid(Operator operator, Row row) {
            int begin = operator.firstBegin(row.time);
            for (int n = 0; n < MOST_OVERLAPS && begin <= row.time; n++) {
                int end = begin + operator.size;
                int i = find(row.key, begin);
                if (i >= 0) {
                    comeInto(i, end, row.v);
                } else {
                    open(row, begin, end);
                }
                begin += operator.stride;
            }
        }

        private int find(int key, int begin) {
            for (int i = size - 1; i >= 0 && i >= size - MOST_OVERLAPS; i--) {
                if (get(i, KEY) == key && get(i, BEGIN) == begin) {
                    return i;
                }
            }
            return -1;
        }

        private void open(Row row, int begin, int end) {
            if (size >= MOST_PASSED) {
                return;
            }
            int at = size * PASSED_WIDTH;
            cells[at + KEY] = row.key;
            cells[at + BEGIN] = begin;
            cells[at + END] = end;
            cells[at + COUNT] = 1;
            cells[at + SUM] = row.v;
            cells[at + LEAST] = row.v;
            cells[at + GREATEST] = row.v;
            size++;
        }

        private void comeInto(int i, int end, int v) {
            if (i < 0 || i >= size) {
                return;
            }
            int at = i * PASSED_WIDTH;
            cells[at + END] = end;
            cells[at + COUNT]++;
            cells[at + SUM] += v;
            cells[at + LEAST] = Math.min(cells[at + LEAST], v);
            cells[at + GREATEST] = Math.max(cells[at + GREATEST], v);
        }
    }
}
