import java.util.Random;

/** Chance runs of up to 512 calls (the seeds are fixed), each answer held against the naive model. */
public final class ModelTest {
    private static final int RUNS = 400;
    private static final int CALLS = 512;

    private final Random chance;
    private final BeltHall x = new BeltHall();
    private final Model m = new Model();
    private String call;
    private int wrong = 0;

    private ModelTest(long seed) {
        chance = new Random(seed);
    }

    private int n(int bound) {
        return chance.nextInt(bound);
    }

    private boolean flip() {
        return chance.nextBoolean();
    }

    private boolean rarely(int often) {
        return n(often) == 0;
    }

    private int wild() {
        switch (n(5)) {
            case 0: return Integer.MIN_VALUE;
            case 1: return Integer.MAX_VALUE;
            case 2: return -1 - n(3);
            case 3: return chance.nextInt();
            default: return n(120);
        }
    }

    /** Mostly what there is, at times the edge, at times anything. */
    private int upTo(int count) {
        return rarely(25) ? wild() : rarely(20) ? count : n(Math.max(1, count));
    }

    private int thing() {
        return upTo(m.count(0));
    }

    private int visitor() {
        return upTo(m.count(1));
    }

    private void same(String name, Check.Call want, Check.Call got) {
        call = name;
        Object due = Check.outcome(want);
        Object answer = Check.outcome(got);
        if (!due.equals(answer)) {
            wrong++;
            System.out.println(name + " answered " + answer + ", due is " + due);
        }
    }

    // ---- texts

    private String blanks() {
        return rarely(6) ? " ".repeat(1 + n(2)) : " ";
    }

    private String maybe() {
        return rarely(8) ? " " : "";
    }

    private String number(int least, int most) {
        int v = rarely(60) ? wild() & 1023 : least + n(most - least + 1);
        String s = Integer.toString(v);
        return rarely(15) && s.length() < 3 ? "0" + s : s;
    }

    private String hallText() {
        StringBuilder b = new StringBuilder(maybe());
        int lines = rarely(30) ? 15 : n(6);
        for (int i = 0; i < lines; i++) {
            b.append(i == 0 ? "" : maybe() + ";" + maybe()).append(hallLine());
        }
        return b.append(maybe()).toString();
    }

    private String hallLine() {
        switch (n(9)) {
            case 0: return "speed" + blanks() + number(1, 9);
            case 1: return m.count(0) > 0 ? "cellar" + blanks() + number(0, m.count(0) - 1) : "speed 3";
            case 2: case 3: case 4:
                return "thing at " + number(0, 19) + blanks() + "hold " + number(0, flip() ? 12 : 99)
                    + " room" + maybe() + number(1, 3);
            default:
                return "visitor age " + number(0, 99) + " clean " + number(0, 9) + blanks() + "group "
                    + number(0, flip() ? 2 : 9) + " away " + number(0, flip() ? 0 : 100) + marks();
        }
    }

    private int freeCell() {
        for (int tries = 0; tries < 50; tries++) {
            int cell = n(20);
            boolean free = true;
            for (int t = 0; t < m.count(0); t++) {
                free &= m.thing(t, 0) != cell;
            }
            if (free) {
                return cell;
            }
        }
        return 0;
    }

    /** A hall in which much rings. */
    private void fill() {
        int things = 1 + n(9);
        for (int t = 0; t < things; t++) {
            tell("thing at " + freeCell() + " hold " + n(rarely(3) ? 40 : 10) + " room " + (flip() ? 1 : 1 + n(3)));
            same("hall()", m::hall, x::hall);
            calls++;
            if (t == 8) {
                break;
            }
        }
        StringBuilder b = new StringBuilder("speed " + (1 + n(9)));
        int visitors = 1 + n(10);
        for (int v = 0; v < visitors && b.length() < 330; v++) {
            b.append(";visitor age " + n(100) + "clean " + n(10) + "group " + n(4) + "away " + (flip() ? 0 : n(101)));
            b.append(marks());
        }
        tell(b.toString());
        same("hall() of '" + b + "'", m::hall, x::hall);
        if (!rarely(4)) {
            tell("like all " + (1 + n(9)) + lawText().replaceFirst("^ *l", ";l"));
            same("law()", m::law, x::law);
        }
        calls += 2;
    }

    private String marks() {
        if (rarely(3)) {
            return maybe();
        }
        StringBuilder b = new StringBuilder(" marks ");
        for (int i = 0; i < 6; i++) {
            b.append(flip() ? "" : (char) ('a' + i));
        }
        if (b.charAt(b.length() - 1) == ' ') {
            b.append("fa");
        }
        return b.toString();
    }

    private String lawText() {
        StringBuilder b = new StringBuilder(maybe());
        int lines = rarely(20) ? 13 : n(7);
        for (int i = 0; i < lines; i++) {
            b.append(i == 0 ? "" : maybe() + ";" + maybe());
            b.append(rarely(3) ? "loathe " : "like ");
            b.append(rarely(3) ? "all" : number(0, rarely(4) ? 8 : 3)).append(' ').append(number(0, flip() ? 9 : 30));
            if (lines < 10 && !rarely(4)) {
                b.append(" if ").append(any(n(3)));
            }
        }
        return b.append(maybe()).toString();
    }

    private String any(int deep) {
        StringBuilder b = new StringBuilder(all(deep));
        while (rarely(4)) {
            b.append(" or ").append(all(deep));
        }
        return b.toString();
    }

    private String all(int deep) {
        StringBuilder b = new StringBuilder(atom(deep));
        while (rarely(4)) {
            b.append(" and ").append(atom(deep));
        }
        return b.toString();
    }

    private String atom(int deep) {
        if (deep > 0 && flip()) {
            return flip() ? "not " + atom(deep - 1) : "(" + maybe() + any(deep - 1) + maybe() + ")";
        }
        if (flip()) {
            return Character.toString((char) ('a' + n(6)));
        }
        return sum() + maybe() + (flip() ? "<" : ">") + maybe() + sum();
    }

    private String sum() {
        StringBuilder b = new StringBuilder(part());
        while (rarely(4)) {
            b.append(maybe()).append('+').append(maybe()).append(part());
        }
        return b.toString();
    }

    private String part() {
        String[] parts = {"age", "clean", "group", "cell", "lonely", "day"};
        return n(3) == 0 ? number(0, 60) : parts[n(6)];
    }

    /** Texts in which all nests about as deep as may be. */
    private String deepText() {
        StringBuilder b = new StringBuilder("like all 3 if ");
        int deep = 5 + n(3);
        int open = 0;
        for (int i = 0; i < deep; i++) {
            if (flip()) {
                b.append("not ");
            } else {
                b.append("(");
                open++;
                if (flip()) {
                    b.append(flip() ? "a or not b and " : "not c or ");
                }
            }
        }
        b.append("clean<4");
        for (int i = 0; i < open; i++) {
            b.append(rarely(4) ? " and d)" : rarely(4) ? " or (e))" : ")");
        }
        return b.append(rarely(10) ? ")" : "").toString();
    }

    private String broken(String text) {
        if (!rarely(4)) {
            return text;
        }
        int at = text.isEmpty() ? 0 : n(text.length() + 1);
        int signs = rarely(3) ? n(256) : " ;()<>+0123456789abcdefgnotand".charAt(n(30));
        switch (n(4)) {
            case 0: return text.substring(0, at);
            case 1: return text.substring(0, at) + (char) signs + text.substring(at);
            case 2: return at < text.length() ? text.substring(0, at) + text.substring(at + 1) : text;
            default: return at < text.length() ? text.substring(0, at) + (char) signs + text.substring(at + 1) : text;
        }
    }

    private int calls = 0;

    private void tell(String text) {
        byte[] bytes = new byte[Math.min(400, text.length()) + 19];
        int length = Math.min(400, text.length());
        for (int i = 0; i < length; i++) {
            bytes[i] = (byte) text.charAt(i);
        }
        same("end(0)", () -> m.end(0), () -> x.end(0));
        for (int i = 0; i < length; i += 20) {
            int[] w = new int[5];
            for (int j = 0; j < 20; j++) {
                w[j / 4] = w[j / 4] << 8 | (i + j < length ? bytes[i + j] & 255 : n(256));
            }
            same("feed", () -> m.feed(w[0], w[1], w[2], w[3], w[4]), () -> x.feed(w[0], w[1], w[2], w[3], w[4]));
            calls++;
        }
        same("end(" + length + ")", () -> m.end(length), () -> x.end(length));
        calls += 2;
    }

    private String rungs() {
        StringBuilder b = new StringBuilder();
        int pairs = rarely(15) ? 19 + n(4) : n(4);
        for (int i = 0; i < pairs; i++) {
            b.append((char) (rarely(30) ? n(256) : n(Math.max(1, m.count(1))))).append((char) (rarely(40) ? 2 : n(2)));
        }
        return b.append(rarely(30) ? "\u0000" : "").toString();
    }

    // ---- calls

    private void text() {
        if (flip()) {
            String text = broken(hallText());
            tell(text);
            same("hall() of '" + text + "'", m::hall, x::hall);
        } else {
            String text = broken(rarely(4) ? deepText() : lawText());
            tell(text);
            same("law() of '" + text + "'", m::law, x::law);
        }
        same("fault() of " + call, m::fault, x::fault);
        calls += 2;
    }

    private void act() {
        int t = thing();
        int v = visitor();
        int a = n(100);
        boolean on = flip();
        switch (n(9)) {
            case 0: int cell = upTo(20); same("move(" + t + ", " + cell + ")", () -> m.move(t, cell), () -> x.move(t, cell)); break;
            case 1: int hold = flip() ? n(15) : upTo(100); same("hold(" + t + ", " + hold + ")", () -> m.hold(t, hold), () -> x.hold(t, hold)); break;
            case 2: boolean shown = !rarely(4); same("show(" + t + ", " + shown + ")", () -> m.show(t, shown), () -> x.show(t, shown)); break;
            case 3: int clean = upTo(10); same("clean(" + v + ", " + clean + ")", () -> m.clean(v, clean), () -> x.clean(v, clean)); break;
            case 4: int mark = upTo(6); same("mark(" + v + ", " + mark + ", " + on + ")", () -> m.mark(v, mark, on), () -> x.mark(v, mark, on)); break;
            case 5:
                int other = visitor();
                same("trade(" + v + ", " + other + ")", () -> { m.trade(v, other); return 0; }, () -> { x.trade(v, other); return 0; });
                break;
            case 6: int d = rarely(4) ? upTo(51) : 1 + n(3); same("days(" + d + ")", () -> m.days(d), () -> x.days(d)); break;
            case 7: int seed = rarely(3) ? wild() : a; same("seed(" + seed + ")", () -> m.seed(seed), () -> x.seed(seed)); break;
            default: back(); break;
        }
    }

    private void back() {
        switch (n(6)) {
            case 0: same("image()", () -> { m.image(); return 0; }, () -> { x.image(); return 0; }); break;
            case 1: same("back()", m::back, x::back); break;
            default: same("undo()", m::undo, x::undo); break;
        }
    }

    private void ask() {
        int t = thing();
        int v = visitor();
        boolean b = flip();
        int days = upTo(31);
        switch (n(29)) {
            case 0: case 1: case 2: int w = upTo(8); same("thing(" + t + ", " + w + ")", () -> m.thing(t, w), () -> x.thing(t, w)); break;
            case 3: case 4: int w2 = upTo(8); same("visitor(" + v + ", " + w2 + ")", () -> m.visitor(v, w2), () -> x.visitor(v, w2)); break;
            case 5: case 6: same("liking(" + t + ", " + v + ")", () -> m.liking(t, v), () -> x.liking(t, v)); break;
            case 7: same("had()", m::had, x::had); break;
            case 8: same("first()", m::first, x::first); break;
            case 9: same("most()", m::most, x::most); break;
            case 10: int who = rarely(3) ? -1 : v; same("dearest(" + who + ")", () -> m.dearest(who), () -> x.dearest(who)); break;
            case 11: same("cannot()", m::cannot, x::cannot); break;
            case 12: same("change(" + b + ")", () -> m.change(b), () -> x.change(b)); break;
            case 13: same("right(" + t + ", " + b + ")", () -> m.right(t, b), () -> x.right(t, b)); break;
            case 14: same("fewest()", m::fewest, x::fewest); break;
            case 15: same("alone()", m::alone, x::alone); break;
            case 16: int o = thing(); same("rivals(" + t + ", " + o + ")", () -> m.rivals(t, o), () -> x.rivals(t, o)); break;
            case 17: int g = upTo(flip() ? 3 : 10); same("group(" + g + ", " + b + ")", () -> m.group(g, b), () -> x.group(g, b)); break;
            case 18: tell(rungs()); same("wants(" + b + ")", () -> m.wants(b), () -> x.wants(b)); break;
            case 19: tell(rungs()); same("send()", m::send, x::send); break;
            case 20: case 21:
                int rang = rarely(10) ? wild() : v >= 0 && v < m.count(1) ? m.visitor(v, 5) : 0;
                int w3 = upTo(3);
                same("about(" + v + ", " + rang + ", " + w3 + ")", () -> m.about(v, rang, w3), () -> x.about(v, rang, w3));
                break;
            case 22: int w4 = upTo(2); same("ahead(" + t + ", " + days + ", " + w4 + ")", () -> m.ahead(t, days, w4), () -> x.ahead(t, days, w4)); break;
            case 23: same("last(" + v + ", " + b + ")", () -> m.last(v, b), () -> x.last(v, b)); break;
            case 24: same("comes(" + t + ")", () -> m.comes(t), () -> x.comes(t)); break;
            case 25: int c = rarely(3) ? -1 : upTo(20); same("steps(" + c + ")", () -> m.steps(c), () -> x.steps(c)); break;
            case 26:
                if (b) {
                    same("trial(" + days + ")", () -> m.trial(days), () -> x.trial(days));
                } else {
                    same("span(" + days + ")", () -> m.span(days, rang(days)), () -> x.span(days, rang(days)));
                }
                break;
            case 27: same("led(" + t + ", " + b + ")", () -> m.led(t, b), () -> x.led(t, b)); break;
            default: int ago = upTo(60); int w5 = upTo(5); same("log(" + ago + ", " + w5 + ")", () -> m.log(ago, w5), () -> x.log(ago, w5)); break;
        }
    }

    private static boolean rang(int days) {
        return days % 2 == 0;
    }

    private int run() {
        if (!rarely(8)) {
            fill();
        }
        while (calls < CALLS - 30 && wrong == 0) {
            int kind = n(20);
            if (kind < (calls < 60 && !rarely(3) ? 3 : rarely(3) ? 1 : 0)) {
                text();
            } else if (kind < 10) {
                act();
                int what = upTo(12);
                same("count(" + what + ")", () -> m.count(what), () -> x.count(what));
                calls++;
            } else {
                ask();
            }
            calls++;
        }
        return wrong;
    }

    public static void main(String[] args) {
        int runs = args.length > 0 ? Integer.parseInt(args[0]) : RUNS;
        int wrong = 0;
        for (int run = 0; run < runs; run++) {
            int inRun = new ModelTest(run).run();
            if (inRun > 0) {
                System.out.println("in the chance run " + run);
            }
            wrong += inRun;
        }
        System.out.println(wrong == 0 ? "all answers are as due" : wrong + " answers are not as due");
        if (wrong != 0) {
            System.exit(1);
        }
    }
}
