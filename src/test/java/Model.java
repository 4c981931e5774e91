import java.util.ArrayDeque;
import java.util.ArrayList;
import java.util.Arrays;
import java.util.Deque;
import java.util.HashMap;
import java.util.List;
import java.util.Map;
import java.util.NoSuchElementException;
import java.util.regex.Matcher;
import java.util.regex.Pattern;

/** The document once more, told as naively as can be: what BeltHall is held against by chance runs. */
final class Model {
    static final int NONE = -1;

    static final class T {
        int cell, hold, room, lonely;
        boolean shown = true;
    }

    static final class V {
        int age, clean, group, away, marks;
    }

    interface Cond {
        boolean holds(State s, T t, V v);
    }

    interface Sum {
        int value(State s, T t, V v);
    }

    static final class Line {
        int who, weight;
        Cond cond = (s, t, v) -> true;
    }

    static final class State {
        List<T> things = new ArrayList<>();
        List<V> visitors = new ArrayList<>();
        List<Line> law;
        List<int[]> log = new ArrayList<>();
        int texts, speed = 2, day, seed = 1, had;

        State copy() {
            State c = new State();
            for (T t : things) {
                T n = new T();
                n.cell = t.cell;
                n.hold = t.hold;
                n.room = t.room;
                n.lonely = t.lonely;
                n.shown = t.shown;
                c.things.add(n);
            }
            for (V v : visitors) {
                V n = new V();
                n.age = v.age;
                n.clean = v.clean;
                n.group = v.group;
                n.away = v.away;
                n.marks = v.marks;
                c.visitors.add(n);
            }
            c.law = law;
            c.log = new ArrayList<>(log);
            c.texts = texts;
            c.speed = speed;
            c.day = day;
            c.seed = seed;
            c.had = had;
            return c;
        }

        int liking(int thing, int visitor) {
            T t = things.get(thing);
            V v = visitors.get(visitor);
            if (law == null) {
                return v.clean;
            }
            int sum = 0;
            for (Line line : law) {
                if ((line.who == NONE || line.who == thing) && line.cond.holds(this, t, v)) {
                    sum += line.weight;
                }
            }
            return Math.max(0, sum);
        }

        boolean rings(int thing, int visitor) {
            T t = things.get(thing);
            int liking = liking(thing, visitor);
            return t.shown && liking > 0 && liking >= Math.max(0, t.hold - t.lonely);
        }

        /** For each visitor who has him; a day changes the state. */
        int[] day(boolean draws) {
            int[] haver = new int[visitors.size()];
            int[] count = new int[things.size()];
            for (int v = 0; v < visitors.size(); v++) {
                haver[v] = NONE;
                if (draws) {
                    seed = (int) (1103515245L * seed + 12345L);
                    int draw = (seed >> 16) & 32767;
                    if (draw % 100 < visitors.get(v).away) {
                        continue;
                    }
                }
                for (int step = 0; step * speed < 20 && haver[v] == NONE; step++) {
                    int best = 0;
                    for (int cell = step * speed; cell < step * speed + speed; cell++) {
                        for (int t = 0; t < things.size(); t++) {
                            if (things.get(t).cell != cell || count[t] >= things.get(t).room || !rings(t, v)) {
                                continue;
                            }
                            int liking = liking(t, v);
                            if (liking > best || liking == best && t < haver[v]) {
                                best = liking;
                                haver[v] = t;
                            }
                        }
                    }
                    if (haver[v] != NONE) {
                        log.add(0, new int[] {day, v, haver[v], best, step});
                        count[haver[v]]++;
                        had++;
                    }
                }
            }
            while (log.size() > 60) {
                log.remove(60);
            }
            for (int t = 0; t < things.size(); t++) {
                T thing = things.get(t);
                if (thing.shown) {
                    thing.lonely = count[t] > 0 ? 0 : Math.min(99, thing.lonely + 1);
                }
            }
            day++;
            return haver;
        }
    }

    private State s = new State();
    private State kept;
    private final Deque<State> undo = new ArrayDeque<>();
    private final StringBuilder tape = new StringBuilder();
    private int fault = NONE;

    // ---- texts

    static final class Fault extends RuntimeException {
        private static final long serialVersionUID = 1;
        final int at;

        Fault(int at) {
            this.at = at;
        }
    }

    private static final Pattern TOKEN = Pattern.compile("[a-z]+|[0-9]+|[^ ]", Pattern.DOTALL);

    static final class Parser {
        final List<String> tokens = new ArrayList<>();
        final List<Integer> begins = new ArrayList<>();
        int at = 0;

        Parser(String text) {
            Matcher m = TOKEN.matcher(text);
            while (m.find()) {
                tokens.add(m.group());
                begins.add(m.start());
            }
            tokens.add("");
            begins.add(text.length());
        }

        String peek() {
            return tokens.get(at);
        }

        Fault fault() {
            return new Fault(begins.get(at));
        }

        boolean accept(String token) {
            if (peek().equals(token)) {
                at++;
                return true;
            }
            return false;
        }

        void expect(String token) {
            if (!accept(token)) {
                throw fault();
            }
        }

        int number(int least, int most) {
            if (!peek().matches("[0-9]{1,3}")) {
                throw fault();
            }
            int n = Integer.parseInt(peek());
            if (n < least || n > most) {
                throw fault();
            }
            at++;
            return n;
        }

        boolean ended() {
            return peek().isEmpty();
        }

        void hall(State s) {
            int lines = 0;
            if (ended()) {
                return;
            }
            do {
                if (++lines > 14) {
                    throw fault();
                }
                hallLine(s);
            } while (accept(";"));
            if (!ended()) {
                throw fault();
            }
        }

        private void hallLine(State s) {
            if (peek().equals("thing") && s.things.size() < 9) {
                at++;
                expect("at");
                T t = new T();
                t.cell = number(0, 19);
                for (T other : s.things) {
                    if (other.cell == t.cell) {
                        at--;
                        throw fault();
                    }
                }
                expect("hold");
                t.hold = number(0, 99);
                expect("room");
                t.room = number(1, 3);
                s.things.add(t);
            } else if (peek().equals("visitor") && s.visitors.size() < 10) {
                at++;
                V v = new V();
                expect("age");
                v.age = number(0, 99);
                expect("clean");
                v.clean = number(0, 9);
                expect("group");
                v.group = number(0, 9);
                expect("away");
                v.away = number(0, 100);
                if (accept("marks")) {
                    if (!peek().matches("[a-f]+")) {
                        throw fault();
                    }
                    for (char c : peek().toCharArray()) {
                        if ((v.marks & 1 << c - 'a') != 0) {
                            throw fault();
                        }
                        v.marks += 1 << c - 'a';
                    }
                    at++;
                }
                s.visitors.add(v);
            } else if (accept("speed")) {
                s.speed = number(1, 9);
            } else if (accept("cellar")) {
                s.things.get(number(0, s.things.size() - 1)).shown = false;
            } else {
                throw fault();
            }
        }

        List<Line> law() {
            List<Line> lines = new ArrayList<>();
            if (ended()) {
                return lines;
            }
            do {
                if (lines.size() == 12) {
                    throw fault();
                }
                Line line = new Line();
                int sign = accept("like") ? 1 : -1;
                if (sign < 0) {
                    expect("loathe");
                }
                line.who = accept("all") ? NONE : number(0, 8);
                line.weight = sign * number(0, 99);
                if (accept("if")) {
                    line.cond = any(6);
                }
                lines.add(line);
            } while (accept(";"));
            if (!ended()) {
                throw fault();
            }
            return lines;
        }

        private Cond any(int left) {
            Cond one = all(left);
            if (accept("or")) {
                Cond rest = any(left);
                return (s, t, v) -> one.holds(s, t, v) || rest.holds(s, t, v);
            }
            return one;
        }

        private Cond all(int left) {
            Cond one = atom(left);
            if (accept("and")) {
                Cond rest = all(left);
                return (s, t, v) -> one.holds(s, t, v) && rest.holds(s, t, v);
            }
            return one;
        }

        private Cond atom(int left) {
            if (peek().equals("not") || peek().equals("(")) {
                if (left == 0) {
                    throw fault();
                }
                if (accept("not")) {
                    Cond inner = atom(left - 1);
                    return (s, t, v) -> !inner.holds(s, t, v);
                }
                at++;
                Cond inner = any(left - 1);
                expect(")");
                return inner;
            }
            if (peek().matches("[a-f]")) {
                int bit = 1 << peek().charAt(0) - 'a';
                at++;
                return (s, t, v) -> (v.marks & bit) != 0;
            }
            Sum one = sum();
            boolean less = accept("<");
            if (!less) {
                expect(">");
            }
            Sum two = sum();
            return less ? (s, t, v) -> one.value(s, t, v) < two.value(s, t, v)
                : (s, t, v) -> one.value(s, t, v) > two.value(s, t, v);
        }

        private Sum sum() {
            Sum one = part();
            if (accept("+")) {
                Sum rest = sum();
                return (s, t, v) -> one.value(s, t, v) + rest.value(s, t, v);
            }
            return one;
        }

        private Sum part() {
            switch (peek()) {
                case "age": at++; return (s, t, v) -> v.age;
                case "clean": at++; return (s, t, v) -> v.clean;
                case "group": at++; return (s, t, v) -> v.group;
                case "cell": at++; return (s, t, v) -> t.cell;
                case "lonely": at++; return (s, t, v) -> t.lonely;
                case "day": at++; return (s, t, v) -> s.day;
                default:
                    int n = number(0, 999);
                    return (s, t, v) -> n;
            }
        }
    }

    int feed(int a, int b, int c, int d, int e) {
        if (tape.length() > 380) {
            return NONE;
        }
        for (int n : new int[] {a, b, c, d, e}) {
            for (int i = 3; i >= 0; i--) {
                tape.append((char) (n >> 8 * i & 255));
            }
        }
        return tape.length();
    }

    boolean end(int n) {
        if (n < 0 || n > tape.length()) {
            return false;
        }
        tape.setLength(n);
        return true;
    }

    private String taken() {
        String text = tape.toString();
        tape.setLength(0);
        return text;
    }

    int hall() {
        String text = taken();
        State next = s.copy();
        fault = NONE;
        try {
            new Parser(text).hall(next);
        } catch (Fault f) {
            fault = f.at;
            throw new IllegalArgumentException();
        }
        if (s.texts == 12) {
            throw new UnsupportedOperationException();
        }
        s = next;
        undo.clear();
        return ++s.texts;
    }

    int law() {
        String text = taken();
        fault = NONE;
        try {
            s.law = new Parser(text).law();
        } catch (Fault f) {
            fault = f.at;
            throw new IllegalArgumentException();
        }
        undo.clear();
        return s.law.size();
    }

    int fault() {
        return fault;
    }

    // ---- needs

    private void needThing(int t) {
        if (t < 0 || t >= s.things.size()) {
            throw new IndexOutOfBoundsException();
        }
    }

    private void needVisitor(int v) {
        if (v < 0 || v >= s.visitors.size()) {
            throw new IndexOutOfBoundsException();
        }
    }

    private static void needIndex(boolean good) {
        if (!good) {
            throw new IndexOutOfBoundsException();
        }
    }

    private static void needNumber(boolean good) {
        if (!good) {
            throw new IllegalArgumentException();
        }
    }

    private static void needWhat(boolean good) {
        if (!good) {
            throw new NoSuchElementException();
        }
    }

    private int[] tomorrow() {
        return s.copy().day(false);
    }

    private int ringing(State in, int visitor) {
        int bits = 0;
        for (int t = 0; t < in.things.size(); t++) {
            if (in.rings(t, visitor)) {
                bits |= 1 << t;
            }
        }
        return bits;
    }

    private int callers(int thing) {
        int bits = 0;
        for (int v = 0; v < s.visitors.size(); v++) {
            if (s.rings(thing, v)) {
                bits |= 1 << v;
            }
        }
        return bits;
    }

    private static int whom(int[] haver, int thing) {
        int bits = 0;
        for (int v = 0; v < haver.length; v++) {
            if (haver[v] == thing) {
                bits |= 1 << v;
            }
        }
        return bits;
    }

    // ---- what there is

    int thing(int thing, int what) {
        needThing(thing);
        T t = s.things.get(thing);
        int[] haver = tomorrow();
        switch (what) {
            case 0: return t.cell;
            case 1: return t.hold;
            case 2: return t.room;
            case 3: return t.shown ? 1 : 0;
            case 4: return t.lonely;
            case 5: return callers(thing);
            case 6: return whom(haver, thing);
            case 7:
                int bits = 0;
                for (int v = 0; v < haver.length; v++) {
                    boolean more = haver[v] != NONE && haver[v] != thing && s.rings(thing, v);
                    for (int own = 0; own < haver.length; own++) {
                        more &= haver[own] != thing || s.liking(thing, v) > s.liking(thing, own);
                    }
                    bits |= more ? 1 << v : 0;
                }
                return bits;
            default: throw new NoSuchElementException();
        }
    }

    int visitor(int visitor, int what) {
        needVisitor(visitor);
        V v = s.visitors.get(visitor);
        int haver = tomorrow()[visitor];
        switch (what) {
            case 0: return v.age;
            case 1: return v.clean;
            case 2: return v.group;
            case 3: return v.away;
            case 4: return v.marks;
            case 5: return ringing(s, visitor);
            case 6: return haver;
            case 7: return haver == NONE ? NONE : steps(s.things.get(haver).cell);
            default: throw new NoSuchElementException();
        }
    }

    int liking(int thing, int visitor) {
        needThing(thing);
        needVisitor(visitor);
        return s.liking(thing, visitor);
    }

    // ---- acts

    private void act() {
        undo.push(s.copy());
        if (undo.size() > 12) {
            undo.removeLast();
        }
    }

    int move(int thing, int cell) {
        needThing(thing);
        needIndex(cell >= 0 && cell < 20);
        act();
        int other = NONE;
        for (int t = 0; t < s.things.size(); t++) {
            if (t != thing && s.things.get(t).cell == cell) {
                other = t;
            }
        }
        if (other != NONE) {
            s.things.get(other).cell = s.things.get(thing).cell;
        }
        s.things.get(thing).cell = cell;
        return other;
    }

    int hold(int thing, int n) {
        needThing(thing);
        needNumber(n >= 0 && n <= 99);
        act();
        int before = s.things.get(thing).hold;
        s.things.get(thing).hold = n;
        return before;
    }

    boolean show(int thing, boolean shown) {
        needThing(thing);
        act();
        boolean before = s.things.get(thing).shown;
        s.things.get(thing).shown = shown;
        return before != shown;
    }

    int clean(int visitor, int n) {
        needVisitor(visitor);
        needNumber(n >= 0 && n <= 9);
        act();
        int before = s.visitors.get(visitor).clean;
        s.visitors.get(visitor).clean = n;
        return before;
    }

    boolean mark(int visitor, int mark, boolean on) {
        needVisitor(visitor);
        needIndex(mark >= 0 && mark < 6);
        act();
        V v = s.visitors.get(visitor);
        boolean before = (v.marks & 1 << mark) != 0;
        if (before != on) {
            v.marks ^= 1 << mark;
        }
        return before != on;
    }

    void trade(int visitor, int other) {
        needVisitor(visitor);
        needVisitor(other);
        needNumber(visitor != other);
        act();
        V v = s.visitors.get(visitor);
        s.visitors.set(visitor, s.visitors.get(other));
        s.visitors.set(other, v);
    }

    int days(int n) {
        needNumber(n >= 1 && n <= 50);
        act();
        return days(s, n);
    }

    private static int days(State in, int n) {
        int before = in.had;
        for (int i = 0; i < n; i++) {
            in.day(true);
        }
        return in.had - before;
    }

    // ---- tomorrow

    int had() {
        int[] haver = tomorrow();
        return (1 << haver.length) - 1 & ~whom(haver, NONE);
    }

    int first() {
        int[] haver = tomorrow();
        int best = NONE;
        for (int t = 0; t < s.things.size(); t++) {
            T thing = s.things.get(t);
            if (thing.shown && whom(haver, t) == 0 && (best == NONE || thing.cell < s.things.get(best).cell)) {
                best = t;
            }
        }
        return best;
    }

    private boolean canAll(int set, int[] room, int[] rings) {
        if (set == 0) {
            return true;
        }
        int v = Integer.numberOfTrailingZeros(set);
        for (int t = 0; t < room.length; t++) {
            if ((rings[v] & 1 << t) != 0 && room[t] > 0) {
                room[t]--;
                boolean can = canAll(set & set - 1, room, rings);
                room[t]++;
                if (can) {
                    return true;
                }
            }
        }
        return false;
    }

    private int[] rooms() {
        return s.things.stream().mapToInt(t -> t.room).toArray();
    }

    private int[] rings() {
        int[] rings = new int[s.visitors.size()];
        for (int v = 0; v < rings.length; v++) {
            rings[v] = ringing(s, v);
        }
        return rings;
    }

    int most() {
        int[] rings = rings();
        int best = 0;
        for (int set = 0; set < 1 << rings.length; set++) {
            if (Integer.bitCount(set) > Integer.bitCount(best) && canAll(set, rooms(), rings)) {
                best = set;
            }
        }
        return best;
    }

    int cannot() {
        int[] rings = rings();
        for (int size = 1; size <= rings.length; size++) {
            for (int set = 0; set < 1 << rings.length; set++) {
                if (Integer.bitCount(set) == size && !canAll(set, rooms(), rings)) {
                    return set;
                }
            }
        }
        return 0;
    }

    private int dearestFrom(int v, int[] room, Map<Long, Integer> known) {
        if (v == s.visitors.size()) {
            return 0;
        }
        long key = v;
        for (int r : room) {
            key = key * 4 + r;
        }
        Integer had = known.get(key);
        if (had != null) {
            return had;
        }
        int best = dearestFrom(v + 1, room, known);
        for (int t = 0; t < room.length; t++) {
            if (room[t] > 0 && s.rings(t, v)) {
                room[t]--;
                best = Math.max(best, s.liking(t, v) + dearestFrom(v + 1, room, known));
                room[t]++;
            }
        }
        known.put(key, best);
        return best;
    }

    int dearest(int visitor) {
        if (visitor != NONE) {
            needVisitor(visitor);
        }
        Map<Long, Integer> known = new HashMap<>();
        int[] room = rooms();
        int best = dearestFrom(0, room, known);
        if (visitor == NONE) {
            return best;
        }
        for (int v = 0; ; v++) {
            int by = NONE;
            if (dearestFrom(v + 1, room, known) < best) {
                for (int t = 0; t < room.length && by == NONE; t++) {
                    if (room[t] > 0 && s.rings(t, v)) {
                        room[t]--;
                        if (s.liking(t, v) + dearestFrom(v + 1, room, known) == best) {
                            by = t;
                            best -= s.liking(t, v);
                        } else {
                            room[t]++;
                        }
                    }
                }
            }
            if (v == visitor) {
                return by;
            }
        }
    }

    int change(boolean many) {
        int best = Integer.bitCount(had());
        int pair = NONE;
        for (int i = 0; i < s.things.size(); i++) {
            for (int j = i + 1; j < s.things.size(); j++) {
                State c = s.copy();
                c.things.get(i).cell = s.things.get(j).cell;
                c.things.get(j).cell = s.things.get(i).cell;
                int before = c.had;
                c.day(false);
                if (c.had - before > best) {
                    best = c.had - before;
                    pair = 10 * i + j;
                }
            }
        }
        return many ? best : pair;
    }

    int right(int thing, boolean much) {
        needThing(thing);
        int best = NONE;
        int bestHold = NONE;
        for (int hold = 0; hold <= 99; hold++) {
            State c = s.copy();
            c.things.get(thing).hold = hold;
            int[] haver = c.copy().day(false);
            int sum = 0;
            for (int v = 0; v < haver.length; v++) {
                sum += haver[v] == thing ? c.liking(thing, v) : 0;
            }
            if (sum > best) {
                best = sum;
                bestHold = hold;
            }
        }
        return much ? best : bestHold;
    }

    int fewest() {
        int best = NONE;
        for (int set = 0; set < 1 << s.visitors.size(); set++) {
            boolean all = true;
            for (int t = 0; t < s.things.size(); t++) {
                all &= callers(t) == 0 || (callers(t) & set) != 0;
            }
            if (all && (best == NONE || Integer.bitCount(set) < Integer.bitCount(best))) {
                best = set;
            }
        }
        return best;
    }

    int alone() {
        int bits = 0;
        for (int t = 0; t < s.things.size(); t++) {
            bits |= callers(t) == 0 ? 1 << t : 0;
        }
        return bits;
    }

    int rivals(int thing, int other) {
        needThing(thing);
        needThing(other);
        needNumber(thing != other);
        return callers(thing) & callers(other);
    }

    int group(int group, boolean left) {
        needIndex(group >= 0 && group <= 9);
        int[] haver = tomorrow();
        int bits = 0;
        for (int v = 0; v < haver.length; v++) {
            if (s.visitors.get(v).group == group && left == (haver[v] == NONE)) {
                bits |= 1 << (left ? v : haver[v]);
            }
        }
        return bits;
    }

    // ---- rings

    private List<Integer> sets() {
        String told = taken();
        needNumber(told.length() <= 40 && told.length() % 2 == 0);
        List<Integer> sets = new ArrayList<>();
        for (int set = 0; set < 64; set++) {
            boolean fits = true;
            for (int i = 0; i < told.length(); i += 2) {
                needNumber(told.charAt(i) < s.visitors.size() && told.charAt(i + 1) < 2);
                boolean rang = (s.visitors.get(told.charAt(i)).marks & set) == set;
                fits &= rang == (told.charAt(i + 1) == 1);
            }
            if (fits) {
                sets.add(set);
            }
        }
        return sets;
    }

    int wants(boolean which) {
        List<Integer> sets = sets();
        if (!which) {
            return sets.size();
        }
        for (int marks = 0; marks <= 6; marks++) {
            for (int set : sets) {
                if (Integer.bitCount(set) == marks) {
                    return set;
                }
            }
        }
        return NONE;
    }

    int send() {
        List<Integer> sets = sets();
        int best = NONE;
        int least = 65;
        for (int v = 0; v < s.visitors.size() && sets.size() > 1; v++) {
            int rung = 0;
            for (int set : sets) {
                rung += (s.visitors.get(v).marks & set) == set ? 1 : 0;
            }
            if (Math.max(rung, sets.size() - rung) < least) {
                least = Math.max(rung, sets.size() - rung);
                best = v;
            }
        }
        return best;
    }

    int about(int visitor, int rang, int what) {
        needVisitor(visitor);
        needWhat(what >= 0 && what <= 2);
        int many = 0;
        int all = 63;
        int any = 0;
        State c = s.copy();
        for (int set = 0; set < 64; set++) {
            c.visitors.get(visitor).marks = set;
            boolean same = true;
            for (int t = 0; t < c.things.size(); t++) {
                same &= c.rings(t, visitor) == ((rang & 1 << t) != 0);
            }
            if (same) {
                many++;
                all &= set;
                any |= set;
            }
        }
        return what == 0 ? many : many == 0 ? 0 : what == 1 ? all : any;
    }

    // ---- days ahead

    int ahead(int thing, int n, int what) {
        needThing(thing);
        needNumber(n >= 0 && n <= 30);
        needWhat(what == 0 || what == 1);
        State c = s.copy();
        int whom = 0;
        for (int i = 0; i < n; i++) {
            whom = whom(c.day(false), thing);
        }
        return what == 0 ? c.things.get(thing).lonely : whom;
    }

    int last(int visitor, boolean over) {
        needVisitor(visitor);
        State c = s.copy();
        int missed = 0;
        int first = NONE;
        for (int i = 1; i <= 30; i++) {
            boolean had = c.day(false)[visitor] != NONE;
            missed += had ? 0 : 1;
            first = had && first == NONE ? i : first;
        }
        return over ? missed : first;
    }

    int comes(int thing) {
        needThing(thing);
        for (int n = 1; n <= 30; n++) {
            if (ahead(thing, n, 1) != 0) {
                return n;
            }
        }
        return NONE;
    }

    int steps(int cell) {
        needIndex(cell >= -1 && cell < 20);
        int step = 0;
        while (cell == NONE ? step * s.speed < 20 : (step + 1) * s.speed <= cell) {
            step++;
        }
        return step;
    }

    int trial(int n) {
        needNumber(n >= 0 && n <= 30);
        return days(s.copy(), n);
    }

    int span(int n, boolean most) {
        needNumber(n >= 0 && n <= 30);
        int[] had = new int[6];
        for (int i = 0; i < 6; i++) {
            State c = s.copy();
            c.seed = i + 1;
            had[i] = days(c, n);
        }
        Arrays.sort(had);
        return most ? had[5] : had[0];
    }

    // ---- the log and what was

    int led(int thing, boolean who) {
        needThing(thing);
        int[] times = new int[10];
        int all = 0;
        for (int[] row : s.log) {
            if (row[2] == thing) {
                times[row[1]]++;
                all++;
            }
        }
        int best = 0;
        for (int v = 1; v < 10; v++) {
            best = times[v] > times[best] ? v : best;
        }
        return !who ? all : times[best] == 0 ? NONE : best;
    }

    int log(int ago, int what) {
        needWhat(what >= 0 && what < 5);
        return ago < 0 || ago >= s.log.size() ? NONE : s.log.get(ago)[what];
    }

    int seed(int n) {
        int before = s.seed;
        s.seed = n;
        return before;
    }

    boolean undo() {
        if (undo.isEmpty()) {
            return false;
        }
        s = undo.pop();
        return true;
    }

    void image() {
        kept = s.copy();
    }

    boolean back() {
        if (kept == null) {
            return false;
        }
        s = kept.copy();
        undo.clear();
        return true;
    }

    int count(int what) {
        switch (what) {
            case 0: return s.things.size();
            case 1: return s.visitors.size();
            case 2: return s.texts;
            case 3: return s.law == null ? NONE : s.law.size();
            case 4: return s.day;
            case 5: return s.speed;
            case 6:
                int bits = 0;
                for (int t = 0; t < s.things.size(); t++) {
                    bits |= s.things.get(t).shown ? 1 << t : 0;
                }
                return bits;
            case 7: return s.things.stream().mapToInt(t -> t.lonely).sum();
            case 8: return s.things.stream().mapToInt(t -> t.room).sum();
            case 9: return s.had;
            case 10: return s.log.size();
            case 11: return undo.size();
            default: return NONE;
        }
    }
}
