import java.util.Arrays;
import java.util.NoSuchElementException;

/** A museum in which the exhibits choose; the document tells what each call promises. */
public final class BeltHall {
    public static final int NONE = -1;

    private static final int CELLS = 20;
    private static final int THINGS = 9;
    private static final int VISITORS = 10;
    private static final int GROUPS = 10;
    private static final int MARK_KINDS = 6;
    private static final int MARK_SETS = 64;
    private static final int HOLDS = 100;
    private static final int CLEANS = 10;
    private static final int LONELIEST = 99;

    private static final int TAPE_MOST = 400;
    private static final int FED_BYTES = 20;
    private static final int TOLD_BYTES = 40;
    private static final int HALL_TEXTS = 12;
    private static final int HALL_LINES = 14;
    private static final int LAW_LINES = 12;
    private static final int DEEPEST = 6;
    private static final int ACTS_KEPT = 12;
    private static final int LOG_ROWS = 60;
    private static final int DAYS_AT_ONCE = 50;
    private static final int DAYS_AHEAD = 30;
    private static final int SPAN_SEEDS = 6;

    // The columns of a THING's and of a VISITOR's row have the numbers by which the face asks for them.
    private static final int COLUMNS = 5;
    private static final int CELL = 0;
    private static final int HOLD = 1;
    private static final int ROOM = 2;
    private static final int SHOWN = 3;
    private static final int LONELY = 4;
    private static final int AGE = 0;
    private static final int CLEAN = 1;
    private static final int GROUP = 2;
    private static final int AWAY = 3;
    private static final int MARKS = 4;

    private final int[] tape = new int[TAPE_MOST];
    private int taped;
    private int wrongByte = NONE;

    private Museum now = new Museum();
    // What is only tried out, and a text of THE HALL until it is known to be right, goes on in here.
    private Museum draft = new Museum();
    private Law rules = new Law();
    private Law draftRules = new Law();

    private final Museum kept = new Museum();
    private final Law keptRules = new Law();
    private boolean anyKept;

    private final Museum[] ahead = new Museum[ACTS_KEPT];
    private int acts;

    private final Passing passing = new Passing();
    private final Pairing pairing = new Pairing();
    private final DearestWay dearestWay = new DearestWay();
    private final HallReader hallReader = new HallReader();
    private final LawReader lawReader = new LawReader();

    public BeltHall() {
        for (int i = 0; i < ahead.length; i++) {
            ahead[i] = new Museum();
        }
    }

    // ---- THE TAPE and the texts

    public int feed(int a, int b, int c, int d, int e) {
        if (taped + FED_BYTES > TAPE_MOST) {
            return NONE;
        }
        append(a);
        append(b);
        append(c);
        append(d);
        append(e);
        return taped;
    }

    private void append(int number) {
        for (int shift = 24; shift >= 0; shift -= 8) {
            put(tape, taped, number >>> shift & 255);
            taped++;
        }
    }

    public boolean end(int n) {
        if (n < 0 || n > taped) {
            return false;
        }
        taped = n;
        return true;
    }

    private int useTapeUp() {
        int bytes = taped;
        taped = 0;
        return bytes;
    }

    public int hall() throws IllegalArgumentException, UnsupportedOperationException {
        draft.copyFrom(now);
        boolean good = hallReader.readInto(draft, tape, useTapeUp());
        wrongByte = hallReader.reader.wrong;
        if (!good) {
            throw new IllegalArgumentException("the text is wrong");
        }
        if (now.texts >= HALL_TEXTS) {
            throw new UnsupportedOperationException("there are 12 texts");
        }
        Museum before = now;
        now = draft;
        draft = before;
        now.texts++;
        acts = 0;
        return now.texts;
    }

    public int law() throws IllegalArgumentException {
        boolean good = lawReader.readInto(draftRules, tape, useTapeUp());
        wrongByte = lawReader.reader.wrong;
        if (!good) {
            throw new IllegalArgumentException("the text is wrong");
        }
        Law before = rules;
        rules = draftRules;
        draftRules = before;
        acts = 0;
        return rules.lines;
    }

    public int fault() {
        return wrongByte;
    }

    // ---- what there is

    public int thing(int thing, int what) throws IndexOutOfBoundsException, NoSuchElementException {
        needThing(thing);
        if (what < 0 || what > 7) {
            throw new NoSuchElementException("nothing of a thing has this number");
        }
        if (what < COLUMNS) {
            return now.ofThing(thing, what);
        }
        tomorrow(now);
        if (what == 5) {
            return at(passing.callers, thing);
        }
        return what == 6 ? passing.hadBy(thing) : passing.envied(thing);
    }

    public int visitor(int visitor, int what) throws IndexOutOfBoundsException, NoSuchElementException {
        needVisitor(visitor);
        if (what < 0 || what > 7) {
            throw new NoSuchElementException("nothing of a visitor has this number");
        }
        if (what < COLUMNS) {
            return now.ofVisitor(visitor, what);
        }
        if (what == 5) {
            return ringing(now, visitor);
        }
        tomorrow(now);
        int haver = at(passing.haver, visitor);
        if (what == 6 || haver == NONE) {
            return haver;
        }
        return now.stepOf(now.ofThing(haver, CELL));
    }

    public int liking(int thing, int visitor) throws IndexOutOfBoundsException {
        needThing(thing);
        needVisitor(visitor);
        return rules.weighs(now, thing, visitor);
    }

    private int ringing(Museum museum, int visitor) {
        int things = 0;
        for (int thing = 0; thing < museum.things; thing++) {
            if (museum.rings(thing, rules.weighs(museum, thing, visitor))) {
                things |= 1 << thing;
            }
        }
        return things;
    }

    private int tomorrow(Museum museum) {
        passing.weigh(museum, rules);
        return passing.lead(museum, false);
    }

    // ---- ACTS

    public int move(int thing, int cell) throws IndexOutOfBoundsException {
        needThing(thing);
        needCell(cell);
        remember();
        int other = now.thingAt(cell);
        if (other == thing) {
            return NONE;
        }
        if (other != NONE) {
            now.setThing(other, CELL, now.ofThing(thing, CELL));
        }
        now.setThing(thing, CELL, cell);
        return other;
    }

    public int hold(int thing, int n) throws IndexOutOfBoundsException, IllegalArgumentException {
        needThing(thing);
        if (n < 0 || n >= HOLDS) {
            throw new IllegalArgumentException("it is no hold");
        }
        remember();
        int before = now.ofThing(thing, HOLD);
        now.setThing(thing, HOLD, n);
        return before;
    }

    public boolean show(int thing, boolean shown) throws IndexOutOfBoundsException {
        needThing(thing);
        remember();
        int told = shown ? 1 : 0;
        boolean changed = now.ofThing(thing, SHOWN) != told;
        now.setThing(thing, SHOWN, told);
        return changed;
    }

    public int clean(int visitor, int n) throws IndexOutOfBoundsException, IllegalArgumentException {
        needVisitor(visitor);
        if (n < 0 || n >= CLEANS) {
            throw new IllegalArgumentException("it is no clean");
        }
        remember();
        int before = now.ofVisitor(visitor, CLEAN);
        now.setVisitor(visitor, CLEAN, n);
        return before;
    }

    public boolean mark(int visitor, int mark, boolean on) throws IndexOutOfBoundsException {
        needVisitor(visitor);
        if (mark < 0 || mark >= MARK_KINDS) {
            throw new IndexOutOfBoundsException("there is no such mark");
        }
        remember();
        int before = now.ofVisitor(visitor, MARKS);
        int after = on ? before | 1 << mark : before & ~(1 << mark);
        now.setVisitor(visitor, MARKS, after);
        return after != before;
    }

    public void trade(int visitor, int other) throws IndexOutOfBoundsException, IllegalArgumentException {
        needVisitor(visitor);
        needVisitor(other);
        if (visitor == other) {
            throw new IllegalArgumentException("both are one");
        }
        remember();
        now.swapVisitors(visitor, other);
    }

    public int days(int n) throws IllegalArgumentException {
        if (n < 1 || n > DAYS_AT_ONCE) {
            throw new IllegalArgumentException("they are no days");
        }
        remember();
        return passDays(now, n);
    }

    private int passDays(Museum museum, int n) {
        int had = 0;
        for (int day = 0; day < n; day++) {
            had += passing.passDay(museum, rules, true);
        }
        return had;
    }

    private void remember() {
        if (acts >= ahead.length) {
            forgetOldest();
        }
        if (acts >= 0 && acts < ahead.length) {
            ahead[acts].copyFrom(now);
            acts++;
        }
    }

    private void forgetOldest() {
        Museum oldest = ahead[0];
        for (int i = 1; i < ahead.length; i++) {
            ahead[i - 1] = ahead[i];
        }
        ahead[ahead.length - 1] = oldest;
        acts = ahead.length - 1;
    }

    // ---- TOMORROW, and what could be

    public int had() {
        tomorrow(now);
        return passing.hadAtAll();
    }

    public int first() {
        tomorrow(now);
        for (int cell = 0; cell < CELLS; cell++) {
            int thing = now.thingAt(cell);
            if (thing != NONE && now.ofThing(thing, SHOWN) == 1 && passing.hadBy(thing) == 0) {
                return thing;
            }
        }
        return NONE;
    }

    public int most() {
        pairUp();
        return pairing.mostAtOnce();
    }

    public int dearest(int visitor) throws IndexOutOfBoundsException {
        if (visitor != NONE) {
            needVisitor(visitor);
        }
        passing.weigh(now, rules);
        dearestWay.find(now, passing);
        return visitor == NONE ? dearestWay.sum(passing) : at(dearestWay.by, visitor);
    }

    public int cannot() {
        pairUp();
        return pairing.fewestTooMany();
    }

    private void pairUp() {
        passing.weigh(now, rules);
        pairing.take(now, passing);
    }

    public int change(boolean many) {
        int best = tomorrow(now);
        int pair = NONE;
        draft.copyFrom(now);
        for (int one = 0; one < now.things; one++) {
            for (int two = one + 1; two < now.things; two++) {
                draft.swapCells(one, two);
                int had = tomorrow(draft);
                draft.swapCells(one, two);
                if (had > best) {
                    best = had;
                    pair = 10 * one + two;
                }
            }
        }
        return many ? best : pair;
    }

    public int right(int thing, boolean much) throws IndexOutOfBoundsException {
        needThing(thing);
        draft.copyFrom(now);
        passing.weigh(draft, rules);
        int best = NONE;
        int bestHold = 0;
        for (int hold = 0; hold < HOLDS; hold++) {
            draft.setThing(thing, HOLD, hold);
            passing.listen(draft);
            passing.lead(draft, false);
            int liked = passing.likedBy(thing);
            if (liked > best) {
                best = liked;
                bestHold = hold;
            }
        }
        return much ? best : bestHold;
    }

    public int fewest() {
        pairUp();
        return pairing.fewestForAll();
    }

    public int alone() {
        passing.weigh(now, rules);
        int things = 0;
        for (int thing = 0; thing < now.things; thing++) {
            if (at(passing.callers, thing) == 0) {
                things |= 1 << thing;
            }
        }
        return things;
    }

    public int rivals(int thing, int other) throws IndexOutOfBoundsException, IllegalArgumentException {
        needThing(thing);
        needThing(other);
        if (thing == other) {
            throw new IllegalArgumentException("both are one");
        }
        passing.weigh(now, rules);
        return at(passing.callers, thing) & at(passing.callers, other);
    }

    public int group(int group, boolean left) throws IndexOutOfBoundsException {
        if (group < 0 || group >= GROUPS) {
            throw new IndexOutOfBoundsException("there is no such group");
        }
        tomorrow(now);
        int shared = 0;
        int leftOver = 0;
        for (int visitor = 0; visitor < now.visitors; visitor++) {
            if (now.ofVisitor(visitor, GROUP) == group) {
                int haver = at(passing.haver, visitor);
                shared |= haver == NONE ? 0 : 1 << haver;
                leftOver |= haver == NONE ? 1 << visitor : 0;
            }
        }
        return left ? leftOver : shared;
    }

    // ---- what is found out by rings

    public int wants(boolean which) throws IllegalArgumentException {
        int bytes = takeTold();
        if (bytes == NONE) {
            throw new IllegalArgumentException("the tape tells no rings");
        }
        long fitting = fittingSets(bytes);
        return which ? smallestOf(fitting) : Long.bitCount(fitting);
    }

    public int send() throws IllegalArgumentException {
        int bytes = takeTold();
        if (bytes == NONE) {
            throw new IllegalArgumentException("the tape tells no rings");
        }
        long fitting = fittingSets(bytes);
        int sets = Long.bitCount(fitting);
        if (sets < 2) {
            return NONE;
        }
        int best = NONE;
        int least = MARK_SETS + 1;
        for (int visitor = 0; visitor < now.visitors; visitor++) {
            int rung = Long.bitCount(fitting & setsWithin(now.ofVisitor(visitor, MARKS)));
            int greater = Math.max(rung, sets - rung);
            if (greater < least) {
                least = greater;
                best = visitor;
            }
        }
        return best;
    }

    private int takeTold() {
        int bytes = useTapeUp();
        if (bytes > TOLD_BYTES || bytes % 2 != 0) {
            return NONE;
        }
        for (int i = 0; i < bytes; i += 2) {
            if (at(tape, i) >= now.visitors || at(tape, i + 1) > 1) {
                return NONE;
            }
        }
        return bytes;
    }

    private long fittingSets(int bytes) {
        long fitting = -1;
        for (int i = 0; i < bytes; i += 2) {
            long rung = setsWithin(now.ofVisitor(at(tape, i), MARKS));
            fitting &= at(tape, i + 1) == 1 ? rung : ~rung;
        }
        return fitting;
    }

    private static long setsWithin(int marks) {
        long sets = 0;
        for (int set = 0; set < MARK_SETS; set++) {
            if ((set & ~marks) == 0) {
                sets |= 1L << set;
            }
        }
        return sets;
    }

    private static int smallestOf(long sets) {
        int best = NONE;
        for (int set = 0; set < MARK_SETS; set++) {
            boolean there = (sets >>> set & 1) == 1;
            if (there && (best == NONE || Integer.bitCount(set) < Integer.bitCount(best))) {
                best = set;
            }
        }
        return best;
    }

    public int about(int visitor, int rang, int what) throws IndexOutOfBoundsException, NoSuchElementException {
        needVisitor(visitor);
        if (what < 0 || what > 2) {
            throw new NoSuchElementException("nothing about a visitor has this number");
        }
        int heard = rang & (1 << now.things) - 1;
        int sets = 0;
        int inAll = MARK_SETS - 1;
        int inAny = 0;
        draft.copyFrom(now);
        for (int set = 0; set < MARK_SETS; set++) {
            draft.setVisitor(visitor, MARKS, set);
            if (ringing(draft, visitor) == heard) {
                sets++;
                inAll &= set;
                inAny |= set;
            }
        }
        if (what == 0 || sets == 0) {
            return sets;
        }
        return what == 1 ? inAll : inAny;
    }

    // ---- DAYS that do not stay

    public int ahead(int thing, int n, int what)
            throws IndexOutOfBoundsException, IllegalArgumentException, NoSuchElementException {
        needThing(thing);
        needDaysAhead(n);
        if (what < 0 || what > 1) {
            throw new NoSuchElementException("nothing ahead has this number");
        }
        draft.copyFrom(now);
        for (int day = 0; day < n; day++) {
            passing.passDay(draft, rules, false);
        }
        if (what == 0) {
            return draft.ofThing(thing, LONELY);
        }
        return n == 0 ? 0 : passing.hadBy(thing);
    }

    public int last(int visitor, boolean over) throws IndexOutOfBoundsException {
        needVisitor(visitor);
        int firstHad = NONE;
        int passedOver = 0;
        draft.copyFrom(now);
        for (int day = 1; day <= DAYS_AHEAD; day++) {
            passing.passDay(draft, rules, false);
            if (at(passing.haver, visitor) == NONE) {
                passedOver++;
            } else if (firstHad == NONE) {
                firstHad = day;
            }
        }
        return over ? passedOver : firstHad;
    }

    public int comes(int thing) throws IndexOutOfBoundsException {
        needThing(thing);
        draft.copyFrom(now);
        for (int day = 1; day <= DAYS_AHEAD; day++) {
            passing.passDay(draft, rules, false);
            if (passing.hadBy(thing) != 0) {
                return day;
            }
        }
        return NONE;
    }

    public int steps(int cell) throws IndexOutOfBoundsException {
        if (cell == NONE) {
            return now.stepOf(CELLS - 1) + 1;
        }
        needCell(cell);
        return now.stepOf(cell);
    }

    public int trial(int n) throws IllegalArgumentException {
        needDaysAhead(n);
        draft.copyFrom(now);
        return passDays(draft, n);
    }

    public int span(int n, boolean most) throws IllegalArgumentException {
        needDaysAhead(n);
        int least = VISITORS * DAYS_AHEAD;
        int greatest = 0;
        for (int seed = 1; seed <= SPAN_SEEDS; seed++) {
            draft.copyFrom(now);
            draft.seed = seed;
            int had = passDays(draft, n);
            least = Math.min(least, had);
            greatest = Math.max(greatest, had);
        }
        return most ? greatest : least;
    }

    // ---- THE LOG, what was, and counts

    public int led(int thing, boolean who) throws IndexOutOfBoundsException {
        needThing(thing);
        int had = 0;
        int best = NONE;
        int bestTimes = 0;
        for (int visitor = 0; visitor < VISITORS; visitor++) {
            int times = now.timesLed(visitor, thing);
            had += times;
            if (times > bestTimes) {
                bestTimes = times;
                best = visitor;
            }
        }
        return who ? best : had;
    }

    public int log(int ago, int what) throws NoSuchElementException {
        if (what < 0 || what >= COLUMNS) {
            throw new NoSuchElementException("nothing in the log has this number");
        }
        return ago < 0 || ago >= now.logRows() ? NONE : now.logged(ago, what);
    }

    public int seed(int n) {
        int before = now.seed;
        now.seed = n;
        return before;
    }

    public boolean undo() {
        if (acts < 1 || acts > ahead.length) {
            return false;
        }
        acts--;
        now.copyFrom(ahead[acts]);
        return true;
    }

    public void image() {
        kept.copyFrom(now);
        keptRules.copyFrom(rules);
        anyKept = true;
    }

    public boolean back() {
        if (!anyKept) {
            return false;
        }
        now.copyFrom(kept);
        rules.copyFrom(keptRules);
        acts = 0;
        return true;
    }

    public int count(int what) {
        switch (what) {
            case 0: return now.things;
            case 1: return now.visitors;
            case 2: return now.texts;
            case 3: return rules.lines;
            case 4: return now.day;
            case 5: return now.speed;
            case 6: return now.shownThings();
            case 7: return now.sumOfThings(LONELY);
            case 8: return now.sumOfThings(ROOM);
            case 9: return now.hadInAll;
            case 10: return now.logRows();
            case 11: return acts;
            default: return NONE;
        }
    }

    // ---- what a call needs

    private void needThing(int thing) {
        if (thing < 0 || thing >= now.things) {
            throw new IndexOutOfBoundsException("there is no such thing");
        }
    }

    private void needVisitor(int visitor) {
        if (visitor < 0 || visitor >= now.visitors) {
            throw new IndexOutOfBoundsException("there is no such visitor");
        }
    }

    private static void needCell(int cell) {
        if (cell < 0 || cell >= CELLS) {
            throw new IndexOutOfBoundsException("there is no such cell");
        }
    }

    private static void needDaysAhead(int n) {
        if (n < 0 || n > DAYS_AHEAD) {
            throw new IllegalArgumentException("they are no days ahead");
        }
    }

    // Every row is read and written through these, so that no index can leave its row.

    private static int at(int[] row, int index) {
        return index >= 0 && index < row.length ? row[index] : 0;
    }

    private static void put(int[] row, int index, int value) {
        if (index >= 0 && index < row.length) {
            row[index] = value;
        }
    }

    private static long at(long[] row, int index) {
        return index >= 0 && index < row.length ? row[index] : 0;
    }

    private static void put(long[] row, int index, long value) {
        if (index >= 0 && index < row.length) {
            row[index] = value;
        }
    }

    /** All that acts and texts of THE HALL change: one whole, so that it can be copied for undoing and trying out. */
    private static final class Museum {
        final int[] thingRows = new int[THINGS * COLUMNS];
        final int[] visitorRows = new int[VISITORS * COLUMNS];
        final int[] log = new int[LOG_ROWS * COLUMNS];
        int things;
        int visitors;
        int texts;
        int speed = 2;
        int day;
        int seed = 1;
        int hadInAll;

        void copyFrom(Museum other) {
            System.arraycopy(other.thingRows, 0, thingRows, 0, thingRows.length);
            System.arraycopy(other.visitorRows, 0, visitorRows, 0, visitorRows.length);
            System.arraycopy(other.log, 0, log, 0, log.length);
            things = other.things;
            visitors = other.visitors;
            texts = other.texts;
            speed = other.speed;
            day = other.day;
            seed = other.seed;
            hadInAll = other.hadInAll;
        }

        int ofThing(int thing, int column) {
            return at(thingRows, thing * COLUMNS + column);
        }

        void setThing(int thing, int column, int value) {
            put(thingRows, thing * COLUMNS + column, value);
        }

        int ofVisitor(int visitor, int column) {
            return at(visitorRows, visitor * COLUMNS + column);
        }

        void setVisitor(int visitor, int column, int value) {
            put(visitorRows, visitor * COLUMNS + column, value);
        }

        int thingAt(int cell) {
            for (int thing = 0; thing < things; thing++) {
                if (at(thingRows, thing * COLUMNS + CELL) == cell) {
                    return thing;
                }
            }
            return NONE;
        }

        int stepOf(int cell) {
            return speed > 0 ? cell / speed : 0;
        }

        boolean rings(int thing, int liking) {
            return ofThing(thing, SHOWN) == 1 && liking > 0
                && liking >= ofThing(thing, HOLD) - ofThing(thing, LONELY);
        }

        void addThing(int cell, int hold, int room) {
            int thing = things;
            things++;
            setThing(thing, CELL, cell);
            setThing(thing, HOLD, hold);
            setThing(thing, ROOM, room);
            setThing(thing, SHOWN, 1);
            setThing(thing, LONELY, 0);
        }

        void swapCells(int one, int two) {
            int cell = ofThing(one, CELL);
            setThing(one, CELL, ofThing(two, CELL));
            setThing(two, CELL, cell);
        }

        void swapVisitors(int one, int two) {
            for (int column = 0; column < COLUMNS; column++) {
                int value = ofVisitor(one, column);
                setVisitor(one, column, ofVisitor(two, column));
                setVisitor(two, column, value);
            }
        }

        boolean drawsAway(int visitor) {
            seed = seed * 1103515245 + 12345;
            return (seed >>> 16 & 0x7fff) % 100 < ofVisitor(visitor, AWAY);
        }

        void note(int visitor, int thing, int liking) {
            int row = hadInAll % LOG_ROWS * COLUMNS;
            put(log, row, day);
            put(log, row + 1, visitor);
            put(log, row + 2, thing);
            put(log, row + 3, liking);
            put(log, row + 4, stepOf(ofThing(thing, CELL)));
            hadInAll++;
        }

        int logRows() {
            return Math.min(hadInAll, LOG_ROWS);
        }

        int logged(int ago, int column) {
            return at(log, (hadInAll - 1 - ago) % LOG_ROWS * COLUMNS + column);
        }

        int timesLed(int visitor, int thing) {
            int times = 0;
            for (int ago = 0; ago < logRows(); ago++) {
                if (logged(ago, 1) == visitor && logged(ago, 2) == thing) {
                    times++;
                }
            }
            return times;
        }

        int shownThings() {
            int shown = 0;
            for (int thing = 0; thing < things; thing++) {
                shown |= ofThing(thing, SHOWN) << thing;
            }
            return shown;
        }

        int sumOfThings(int column) {
            int sum = 0;
            for (int thing = 0; thing < things; thing++) {
                sum += ofThing(thing, column);
            }
            return sum;
        }
    }

    /** THE LAW, its conditions in the order in which they are reckoned: parts first, then what joins them. */
    private static final class Law {
        // A number stands for itself (0 to 999); all else is above.
        static final int PARTS = 6;
        static final int FIRST_PART = 1000;
        static final int FIRST_MARK = 1010;
        static final int OTHER_SUM = 1020;
        static final int LESS = 1021;
        static final int MORE = 1022;
        static final int NOT = 1023;
        static final int AND = 1024;
        static final int OR = 1025;

        final int[] amount = new int[LAW_LINES];
        final int[] who = new int[LAW_LINES];
        final int[] until = new int[LAW_LINES];
        final int[] program = new int[TAPE_MOST];
        final int[] parts = new int[PARTS];
        int size;
        int lines = NONE;

        void clear() {
            size = 0;
            lines = 0;
        }

        void copyFrom(Law other) {
            System.arraycopy(other.amount, 0, amount, 0, amount.length);
            System.arraycopy(other.who, 0, who, 0, who.length);
            System.arraycopy(other.until, 0, until, 0, until.length);
            System.arraycopy(other.program, 0, program, 0, program.length);
            size = other.size;
            lines = other.lines;
        }

        void addOperation(int operation) {
            put(program, size, operation);
            size++;
        }

        void endLine(int whose, int weight) {
            put(who, lines, whose);
            put(amount, lines, weight);
            put(until, lines, size);
            lines++;
        }

        int weighs(Museum museum, int thing, int visitor) {
            if (lines == NONE) {
                return museum.ofVisitor(visitor, CLEAN);
            }
            // In the order in which the words of parts tell their numbers.
            put(parts, 0, museum.ofVisitor(visitor, AGE));
            put(parts, 1, museum.ofVisitor(visitor, CLEAN));
            put(parts, 2, museum.ofVisitor(visitor, GROUP));
            put(parts, 3, museum.ofThing(thing, CELL));
            put(parts, 4, museum.ofThing(thing, LONELY));
            put(parts, 5, museum.day);
            int marks = museum.ofVisitor(visitor, MARKS);
            int sum = 0;
            int from = 0;
            for (int line = 0; line < lines; line++) {
                int whose = at(who, line);
                int to = at(until, line);
                if ((whose == NONE || whose == thing) && holds(marks, from, to)) {
                    sum += at(amount, line);
                }
                from = to;
            }
            return Math.max(sum, 0);
        }

        private boolean holds(int marks, int from, int to) {
            // The truths that wait are the bits of one number: six deep, there are never more than some fifteen.
            int truths = from < to ? 0 : 1;
            int sum = 0;
            int otherSum = 0;
            for (int i = from; i < to; i++) {
                int operation = at(program, i);
                if (operation < FIRST_MARK) {
                    sum += operation < FIRST_PART ? operation : at(parts, operation - FIRST_PART);
                } else if (operation == OTHER_SUM) {
                    otherSum = sum;
                    sum = 0;
                } else if (operation == LESS || operation == MORE) {
                    boolean holds = operation == LESS ? otherSum < sum : otherSum > sum;
                    truths = truths << 1 | (holds ? 1 : 0);
                    sum = 0;
                } else if (operation >= NOT) {
                    truths = joined(operation, truths);
                } else {
                    truths = truths << 1 | marks >> operation - FIRST_MARK & 1;
                }
            }
            return (truths & 1) == 1;
        }

        private static int joined(int operation, int truths) {
            if (operation == NOT) {
                return truths ^ 1;
            }
            int latest = truths & 1;
            int rest = truths >> 1;
            return operation == OR ? rest | latest : rest & (latest | ~1);
        }
    }

    /** VISITORS led past: LIKING of all by all, and who is had by what. */
    private static final class Passing {
        final int[] likings = new int[THINGS * VISITORS];
        final int[] callers = new int[THINGS];
        final int[] haver = new int[VISITORS];
        final int[] roomLeft = new int[THINGS];

        void weigh(Museum museum, Law law) {
            for (int thing = 0; thing < museum.things; thing++) {
                for (int visitor = 0; visitor < museum.visitors; visitor++) {
                    put(likings, thing * VISITORS + visitor, law.weighs(museum, thing, visitor));
                }
            }
            listen(museum);
        }

        /** Apart from LIKING, since a HOLD may be tried that changes no LIKING. */
        void listen(Museum museum) {
            for (int thing = 0; thing < museum.things; thing++) {
                int visitors = 0;
                for (int visitor = 0; visitor < museum.visitors; visitor++) {
                    if (museum.rings(thing, likes(thing, visitor))) {
                        visitors |= 1 << visitor;
                    }
                }
                put(callers, thing, visitors);
            }
        }

        int likes(int thing, int visitor) {
            return at(likings, thing * VISITORS + visitor);
        }

        boolean calls(int thing, int visitor) {
            return (at(callers, thing) >> visitor & 1) == 1;
        }

        int lead(Museum museum, boolean draws) {
            Arrays.fill(haver, NONE);
            for (int thing = 0; thing < museum.things; thing++) {
                put(roomLeft, thing, museum.ofThing(thing, ROOM));
            }
            int had = 0;
            for (int visitor = 0; visitor < museum.visitors; visitor++) {
                boolean away = draws && museum.drawsAway(visitor);
                int thing = away ? NONE : firstToRing(museum, visitor);
                if (thing != NONE) {
                    put(haver, visitor, thing);
                    put(roomLeft, thing, at(roomLeft, thing) - 1);
                    had++;
                }
            }
            return had;
        }

        private int firstToRing(Museum museum, int visitor) {
            int best = NONE;
            int bestStep = CELLS;
            for (int thing = 0; thing < museum.things; thing++) {
                if (at(roomLeft, thing) > 0 && calls(thing, visitor)) {
                    int step = museum.stepOf(museum.ofThing(thing, CELL));
                    boolean dearer = step == bestStep && likes(thing, visitor) > likes(best, visitor);
                    if (step < bestStep || dearer) {
                        best = thing;
                        bestStep = step;
                    }
                }
            }
            return best;
        }

        int passDay(Museum museum, Law law, boolean draws) {
            weigh(museum, law);
            int had = lead(museum, draws);
            for (int visitor = 0; visitor < museum.visitors; visitor++) {
                int thing = at(haver, visitor);
                if (thing != NONE) {
                    museum.note(visitor, thing, likes(thing, visitor));
                }
            }
            for (int thing = 0; thing < museum.things; thing++) {
                if (museum.ofThing(thing, SHOWN) == 1) {
                    int lonelier = Math.min(museum.ofThing(thing, LONELY) + 1, LONELIEST);
                    museum.setThing(thing, LONELY, hadBy(thing) != 0 ? 0 : lonelier);
                }
            }
            museum.day++;
            return had;
        }

        int hadBy(int thing) {
            int visitors = 0;
            for (int visitor = 0; visitor < VISITORS; visitor++) {
                if (at(haver, visitor) == thing) {
                    visitors |= 1 << visitor;
                }
            }
            return visitors;
        }

        int hadAtAll() {
            int visitors = 0;
            for (int visitor = 0; visitor < VISITORS; visitor++) {
                if (at(haver, visitor) != NONE) {
                    visitors |= 1 << visitor;
                }
            }
            return visitors;
        }

        int likedBy(int thing) {
            int sum = 0;
            for (int visitor = 0; visitor < VISITORS; visitor++) {
                if (at(haver, visitor) == thing) {
                    sum += likes(thing, visitor);
                }
            }
            return sum;
        }

        int envied(int thing) {
            int own = 0;
            for (int visitor = 0; visitor < VISITORS; visitor++) {
                if (at(haver, visitor) == thing) {
                    own = Math.max(own, likes(thing, visitor));
                }
            }
            int visitors = 0;
            for (int visitor = 0; visitor < VISITORS; visitor++) {
                boolean others = at(haver, visitor) != NONE && at(haver, visitor) != thing;
                if (others && calls(thing, visitor) && likes(thing, visitor) > own) {
                    visitors |= 1 << visitor;
                }
            }
            return visitors;
        }
    }

    /** Sets of VISITORS against the THINGS that CAN have them. */
    private static final class Pairing {
        final int[] callers = new int[THINGS];
        final int[] room = new int[THINGS];
        int things;
        int visitors;
        int sets;

        void take(Museum museum, Passing passing) {
            things = museum.things;
            visitors = museum.visitors;
            sets = 1 << visitors;
            for (int thing = 0; thing < things; thing++) {
                put(callers, thing, at(passing.callers, thing));
                put(room, thing, museum.ofThing(thing, ROOM));
            }
        }

        /** More VISITORS than all THINGS that ring for any of them have room for. */
        private boolean tooMany(int set) {
            int rooms = 0;
            for (int thing = 0; thing < things; thing++) {
                if ((at(callers, thing) & set) != 0) {
                    rooms += at(room, thing);
                }
            }
            return Integer.bitCount(set) > rooms;
        }

        // By Hall's theorem all of a set can be had at once just if no part of it is too many; of the parts
        // without its last VISITOR none is.
        private boolean anyTooMany(int set, int last) {
            for (int part = 1 << last; part <= set; part++) {
                if ((part & ~set) == 0 && tooMany(part)) {
                    return true;
                }
            }
            return false;
        }

        // Such sets are a matroid, so taking each VISITOR that still fits, from the least on, ends at the least
        // of the greatest sets.
        int mostAtOnce() {
            int chosen = 0;
            for (int visitor = 0; visitor < visitors; visitor++) {
                int more = chosen | 1 << visitor;
                if (!anyTooMany(more, visitor)) {
                    chosen = more;
                }
            }
            return chosen;
        }

        // In the smallest set that cannot be had, all smaller parts can: so it is too many itself.
        int fewestTooMany() {
            int best = 0;
            for (int set = 1; set < sets; set++) {
                boolean fewer = best == 0 || Integer.bitCount(set) < Integer.bitCount(best);
                if (fewer && tooMany(set)) {
                    best = set;
                }
            }
            return best;
        }

        int fewestForAll() {
            int best = sets - 1;
            for (int set = 0; set < sets; set++) {
                if (Integer.bitCount(set) < Integer.bitCount(best) && ringAllFor(set)) {
                    best = set;
                }
            }
            return best;
        }

        private boolean ringAllFor(int set) {
            for (int thing = 0; thing < things; thing++) {
                int some = at(callers, thing);
                if (some != 0 && (some & set) == 0) {
                    return false;
                }
            }
            return true;
        }
    }

    /** DEAREST: the way grows by one VISITOR at a time, by the exchange that gains most, while one gains. */
    private static final class DearestWay {
        static final long UNREACHED = -1_000_000_000_000_000_000L;
        static final long LIKING_WORTH = 10_000_000_000L;

        final long[] worths = new long[THINGS * VISITORS];
        final int[] by = new int[VISITORS];
        final int[] roomLeft = new int[THINGS];
        final long[] gainOfVisitor = new long[VISITORS];
        final long[] gainOfThing = new long[THINGS];
        final int[] cameFrom = new int[THINGS];
        int things;
        int visitors;

        void find(Museum museum, Passing passing) {
            things = museum.things;
            visitors = museum.visitors;
            Arrays.fill(by, NONE);
            for (int thing = 0; thing < things; thing++) {
                put(roomLeft, thing, museum.ofThing(thing, ROOM));
            }
            setWorths(passing);
            for (int more = 0; more < visitors; more++) {
                int last = bestEnd();
                if (last == NONE) {
                    return;
                }
                exchange(last);
            }
        }

        // Beneath LIKING each VISITOR has a digit of his own, VISITOR 0 the highest, less by the number of his
        // THING and 1: so of all ways that are equally dear the first one is worth the most, and no two the same.
        private void setWorths(Passing passing) {
            long digit = LIKING_WORTH / 10;
            for (int visitor = 0; visitor < visitors; visitor++) {
                for (int thing = 0; thing < things; thing++) {
                    long value = passing.likes(thing, visitor) * LIKING_WORTH - (thing + 1) * digit;
                    boolean can = passing.calls(thing, visitor);
                    put(worths, thing * VISITORS + visitor, can ? value : 0);
                }
                digit /= 10;
            }
        }

        private long worth(int thing, int visitor) {
            return at(worths, thing * VISITORS + visitor);
        }

        private int bestEnd() {
            Arrays.fill(gainOfThing, UNREACHED);
            for (int visitor = 0; visitor < visitors; visitor++) {
                put(gainOfVisitor, visitor, at(by, visitor) == NONE ? 0 : UNREACHED);
            }
            // A chain of exchanges goes through each VISITOR once at most.
            boolean better = true;
            for (int round = 0; round <= visitors && better; round++) {
                boolean newThings = reachThings();
                better = reachVisitors() || newThings;
            }
            int best = NONE;
            for (int thing = 0; thing < things; thing++) {
                long gain = at(gainOfThing, thing);
                if (at(roomLeft, thing) > 0 && gain > 0 && (best == NONE || gain > at(gainOfThing, best))) {
                    best = thing;
                }
            }
            return best;
        }

        private boolean reachThings() {
            boolean better = false;
            for (int visitor = 0; visitor < visitors; visitor++) {
                long gain = at(gainOfVisitor, visitor);
                for (int thing = 0; thing < things && gain != UNREACHED; thing++) {
                    long more = worth(thing, visitor);
                    boolean free = more > 0 && at(by, visitor) != thing;
                    if (free && gain + more > at(gainOfThing, thing)) {
                        put(gainOfThing, thing, gain + more);
                        put(cameFrom, thing, visitor);
                        better = true;
                    }
                }
            }
            return better;
        }

        private boolean reachVisitors() {
            boolean better = false;
            for (int visitor = 0; visitor < visitors; visitor++) {
                int thing = at(by, visitor);
                long gain = thing == NONE ? UNREACHED : at(gainOfThing, thing);
                if (gain != UNREACHED && gain - worth(thing, visitor) > at(gainOfVisitor, visitor)) {
                    put(gainOfVisitor, visitor, gain - worth(thing, visitor));
                    better = true;
                }
            }
            return better;
        }

        private void exchange(int last) {
            put(roomLeft, last, at(roomLeft, last) - 1);
            int thing = last;
            for (int link = 0; link < VISITORS && thing != NONE; link++) {
                int visitor = at(cameFrom, thing);
                int left = at(by, visitor);
                put(by, visitor, thing);
                thing = left;
            }
        }

        int sum(Passing passing) {
            int sum = 0;
            for (int visitor = 0; visitor < visitors; visitor++) {
                int thing = at(by, visitor);
                sum += thing == NONE ? 0 : passing.likes(thing, visitor);
            }
            return sum;
        }
    }

    /** What can stand in a text, and which part of a SUM it is, if it is one. */
    private enum Word {
        THING("thing", NONE), AT("at", NONE), HOLD("hold", NONE), ROOM("room", NONE), VISITOR("visitor", NONE),
        AWAY("away", NONE), MARKS("marks", NONE), SPEED("speed", NONE), CELLAR("cellar", NONE),
        LIKE("like", NONE), LOATHE("loathe", NONE), ALL("all", NONE), IF("if", NONE),
        NOT("not", NONE), AND("and", NONE), OR("or", NONE),
        AGE("age", 0), CLEAN("clean", 1), GROUP("group", 2), CELL("cell", 3), LONELY("lonely", 4), DAY("day", 5),
        NEXT_LINE(";", NONE), OPEN("(", NONE), CLOSE(")", NONE), LESS("<", NONE), MORE(">", NONE), PLUS("+", NONE),
        NUMBER("", NONE), OTHER("", NONE), END("", NONE);

        final String spelling;
        final int part;

        Word(String spelling, int part) {
            this.spelling = spelling;
            this.part = part;
        }
    }

    private static final Word[] WORDS = Word.values();

    /** A text, word by word; whatever is wrong in it is wrong at the begin of the word that is looked at. */
    private static final class Reader {
        static final int DIGITS = 3;
        static final int TOO_LARGE = 1000;

        final Word[] words = new Word[TAPE_MOST + 1];
        final int[] begins = new int[TAPE_MOST + 1];
        final int[] values = new int[TAPE_MOST + 1];
        int size;
        int position;
        Word word = Word.END;
        int begin;
        int value;
        int wrong = NONE;

        void open(int[] text, int length) {
            size = 0;
            for (int i = 0; i < length; ) {
                int sign = at(text, i);
                int after = i + 1;
                if (isLetter(sign)) {
                    after = endOfLetters(text, i, length);
                    add(spelled(text, i, after), i, marksOf(text, i, after));
                } else if (isDigit(sign)) {
                    after = endOfDigits(text, i, length);
                    add(Word.NUMBER, i, numberOf(text, i, after));
                } else if (sign != ' ') {
                    add(spelled(text, i, after), i, NONE);
                }
                i = Math.max(after, i + 1);
            }
            add(Word.END, length, NONE);
            wrong = NONE;
            position = NONE;
            next();
        }

        private void add(Word found, int begin, int value) {
            if (size >= 0 && size < words.length) {
                words[size] = found;
                put(begins, size, begin);
                put(values, size, value);
                size++;
            }
        }

        private static boolean isLetter(int sign) {
            return sign >= 'a' && sign <= 'z';
        }

        private static boolean isDigit(int sign) {
            return sign >= '0' && sign <= '9';
        }

        private static int endOfLetters(int[] text, int from, int length) {
            int end = from;
            while (end < length && isLetter(at(text, end))) {
                end++;
            }
            return end;
        }

        private static int endOfDigits(int[] text, int from, int length) {
            int end = from;
            while (end < length && isDigit(at(text, end))) {
                end++;
            }
            return end;
        }

        private static Word spelled(int[] text, int from, int to) {
            for (int i = 0; i < WORDS.length; i++) {
                if (isSpelled(WORDS[i].spelling, text, from, to)) {
                    return WORDS[i];
                }
            }
            return Word.OTHER;
        }

        private static boolean isSpelled(String spelling, int[] text, int from, int to) {
            if (spelling.length() != to - from) {
                return false;
            }
            for (int i = 0; i < spelling.length(); i++) {
                if (spelling.charAt(i) != at(text, from + i)) {
                    return false;
                }
            }
            return true;
        }

        /** A word's MARKS, as bits; NONE, if it is no word of MARKS, or has one twice. */
        private static int marksOf(int[] text, int from, int to) {
            int marks = 0;
            for (int i = from; i < to; i++) {
                int mark = at(text, i) - 'a';
                if (mark >= MARK_KINDS || (marks >> mark & 1) == 1) {
                    return NONE;
                }
                marks |= 1 << mark;
            }
            return marks;
        }

        private static int numberOf(int[] text, int from, int to) {
            if (to - from > DIGITS) {
                return TOO_LARGE;
            }
            int number = 0;
            for (int i = from; i < to; i++) {
                number = number * 10 + at(text, i) - '0';
            }
            return number;
        }

        void next() {
            if (position < size - 1) {
                position++;
            }
            if (position >= 0 && position < words.length && words[position] != null) {
                word = words[position];
                begin = begins[position];
                value = values[position];
            }
        }

        boolean refuse() {
            wrong = begin;
            return false;
        }

        boolean skip(Word expected) {
            boolean is = word == expected;
            if (is) {
                next();
            }
            return is;
        }

        int numberWithin(int least, int most) {
            return word == Word.NUMBER && value >= least && value <= most ? value : NONE;
        }

        int marksHere() {
            return word == Word.OTHER ? value : NONE;
        }
    }

    /** A text of THE HALL. */
    private static final class HallReader {
        final Reader reader = new Reader();
        int taken;

        boolean readInto(Museum museum, int[] bytes, int count) {
            reader.open(bytes, count);
            if (reader.word == Word.END) {
                return true;
            }
            for (int line = 0; line < HALL_LINES; line++) {
                if (!readLine(museum)) {
                    return false;
                }
                if (reader.word == Word.END) {
                    return true;
                }
                if (!reader.skip(Word.NEXT_LINE)) {
                    return reader.refuse();
                }
            }
            return reader.refuse();
        }

        private boolean readLine(Museum museum) {
            if (reader.word == Word.THING && museum.things < THINGS) {
                return readThing(museum);
            }
            if (reader.word == Word.VISITOR && museum.visitors < VISITORS) {
                return readVisitor(museum);
            }
            if (reader.word == Word.SPEED) {
                return readSpeed(museum);
            }
            return reader.word == Word.CELLAR ? readCellar(museum) : reader.refuse();
        }

        private boolean readThing(Museum museum) {
            reader.next();
            if (!readCell(museum)) {
                return false;
            }
            int cell = taken;
            if (!readNamed(Word.HOLD, 0, HOLDS - 1)) {
                return false;
            }
            int hold = taken;
            if (!readNamed(Word.ROOM, 1, 3)) {
                return false;
            }
            museum.addThing(cell, hold, taken);
            return true;
        }

        private boolean readCell(Museum museum) {
            if (!reader.skip(Word.AT)) {
                return reader.refuse();
            }
            taken = reader.numberWithin(0, CELLS - 1);
            if (taken == NONE || museum.thingAt(taken) != NONE) {
                return reader.refuse();
            }
            reader.next();
            return true;
        }

        private boolean readVisitor(Museum museum) {
            int visitor = museum.visitors;
            museum.visitors++;
            reader.next();
            for (int column = AGE; column <= AWAY; column++) {
                if (!readColumn(column)) {
                    return false;
                }
                museum.setVisitor(visitor, column, taken);
            }
            museum.setVisitor(visitor, MARKS, 0);
            return !reader.skip(Word.MARKS) || readMarks(museum, visitor);
        }

        private boolean readColumn(int column) {
            switch (column) {
                case AGE: return readNamed(Word.AGE, 0, 99);
                case CLEAN: return readNamed(Word.CLEAN, 0, CLEANS - 1);
                case GROUP: return readNamed(Word.GROUP, 0, GROUPS - 1);
                default: return readNamed(Word.AWAY, 0, 100);
            }
        }

        private boolean readMarks(Museum museum, int visitor) {
            int marks = reader.marksHere();
            if (marks == NONE) {
                return reader.refuse();
            }
            museum.setVisitor(visitor, MARKS, marks);
            reader.next();
            return true;
        }

        private boolean readSpeed(Museum museum) {
            boolean good = readNamed(Word.SPEED, 1, 9);
            if (good) {
                museum.speed = taken;
            }
            return good;
        }

        private boolean readCellar(Museum museum) {
            boolean good = readNamed(Word.CELLAR, 0, museum.things - 1);
            if (good) {
                museum.setThing(taken, SHOWN, 0);
            }
            return good;
        }

        private boolean readNamed(Word name, int least, int most) {
            if (!reader.skip(name)) {
                return reader.refuse();
            }
            taken = reader.numberWithin(least, most);
            if (taken == NONE) {
                return reader.refuse();
            }
            reader.next();
            return true;
        }
    }

    /** A text of THE LAW. */
    private static final class LawReader {
        static final int OPENED = Law.OR + 1;
        // Of each depth an or, an and, and what opened it.
        static final int MOST_OPEN = 3 * (DEEPEST + 1);

        final Reader reader = new Reader();
        // Operations that wait for what stands on their right; what binds less, or is opened, ends the row of those
        // that can be done.
        final int[] open = new int[MOST_OPEN];
        int opens;
        int depth;

        boolean readInto(Law law, int[] bytes, int count) {
            law.clear();
            reader.open(bytes, count);
            if (reader.word == Word.END) {
                return true;
            }
            for (int line = 0; line < LAW_LINES; line++) {
                if (!readLine(law)) {
                    return false;
                }
                if (reader.word == Word.END) {
                    return true;
                }
                if (!reader.skip(Word.NEXT_LINE)) {
                    return reader.refuse();
                }
            }
            return reader.refuse();
        }

        private boolean readLine(Law law) {
            boolean likes = reader.skip(Word.LIKE);
            if (!likes && !reader.skip(Word.LOATHE)) {
                return reader.refuse();
            }
            int whose = reader.numberWithin(0, THINGS - 1);
            if (whose == NONE && reader.word != Word.ALL) {
                return reader.refuse();
            }
            reader.next();
            int weight = reader.numberWithin(0, 99);
            if (weight == NONE) {
                return reader.refuse();
            }
            reader.next();
            if (reader.skip(Word.IF) && !readCondition(law)) {
                return false;
            }
            law.endLine(whose, likes ? weight : -weight);
            return true;
        }

        private boolean readCondition(Law law) {
            opens = 0;
            depth = 0;
            for (int atom = 0; atom < TAPE_MOST; atom++) {
                if (!readOpenings() || !readAtom(law)) {
                    return false;
                }
                readClosings(law);
                if (reader.word == Word.AND) {
                    settle(law, Law.AND);
                    leaveOpen(Law.AND);
                } else {
                    settle(law, Law.OR);
                    if (reader.word != Word.OR) {
                        return opens == 0 || reader.refuse();
                    }
                    leaveOpen(Law.OR);
                }
                reader.next();
            }
            return reader.refuse();
        }

        private boolean readOpenings() {
            for (int i = 0; i <= DEEPEST && (reader.word == Word.NOT || reader.word == Word.OPEN); i++) {
                if (depth >= DEEPEST) {
                    return reader.refuse();
                }
                depth++;
                leaveOpen(reader.word == Word.NOT ? Law.NOT : OPENED);
                reader.next();
            }
            return true;
        }

        private void readClosings(Law law) {
            for (int i = 0; i < DEEPEST && reader.word == Word.CLOSE; i++) {
                settle(law, Law.OR);
                if (opens == 0) {
                    return;
                }
                opens--;
                depth--;
                reader.next();
            }
        }

        private void leaveOpen(int operation) {
            put(open, opens, operation);
            opens++;
        }

        /** Ends what is open and binds as much as the operation told, or more. */
        private void settle(Law law, int operation) {
            while (opens > 0 && at(open, opens - 1) <= operation) {
                opens--;
                int settled = at(open, opens);
                depth -= settled == Law.NOT ? 1 : 0;
                law.addOperation(settled);
            }
        }

        private boolean readAtom(Law law) {
            int marks = reader.marksHere();
            if (marks != NONE && Integer.bitCount(marks) == 1) {
                law.addOperation(Law.FIRST_MARK + Integer.numberOfTrailingZeros(marks));
                reader.next();
                return true;
            }
            if (!readSum(law)) {
                return false;
            }
            boolean less = reader.skip(Word.LESS);
            if (!less && !reader.skip(Word.MORE)) {
                return reader.refuse();
            }
            law.addOperation(Law.OTHER_SUM);
            if (!readSum(law)) {
                return false;
            }
            law.addOperation(less ? Law.LESS : Law.MORE);
            return true;
        }

        private boolean readSum(Law law) {
            for (int part = 0; part < TAPE_MOST; part++) {
                int named = reader.word.part;
                int operation = named == NONE ? reader.numberWithin(0, 999) : Law.FIRST_PART + named;
                if (operation == NONE) {
                    return reader.refuse();
                }
                law.addOperation(operation);
                reader.next();
                if (!reader.skip(Word.PLUS)) {
                    return true;
                }
            }
            return reader.refuse();
        }
    }
}
