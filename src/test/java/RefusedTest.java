/**
 * The paragraph behind Terms: which of several exceptions is thrown, what a call that throws may change, what sets of
 * none count for; and calls with no THING, no VISITOR, no LAW, no IMAGE.
 */
public final class RefusedTest {
    private interface Refused {
        void on(BeltHall x);
    }

    private static final Check c = new Check();
    private static final Class<?> OUT = IndexOutOfBoundsException.class;
    private static final Class<?> ILLEGAL = IllegalArgumentException.class;
    private static final Class<?> NO_SUCH = java.util.NoSuchElementException.class;
    private static final int[] NO_THING = {2, 3, 8, 9, -1, Integer.MAX_VALUE, Integer.MIN_VALUE};
    private static final int[] NO_VISITOR = {3, 9, 10, -1, Integer.MAX_VALUE, Integer.MIN_VALUE};
    private static final int[] NO_CELL = {20, -1, Integer.MAX_VALUE, Integer.MIN_VALUE};
    private static final int[] NO_DAYS = {31, -1, Integer.MAX_VALUE, Integer.MIN_VALUE};

    /** Two THINGS and three VISITORS of some days, with acts, a fault, a text on THE TAPE and an IMAGE. */
    private static BeltHall busy() {
        BeltHall x = Check.law(Check.hall(Halls.SMALL), "like all 4 if a or age>30;like 1 3;loathe 0 1 if f");
        x.days(4);
        x.move(1, 4);
        x.image();
        x.days(2);
        x.hold(0, 3);
        x.seed(55);
        Check.feed(x, "speed 99");
        Check.outcome(x::hall);
        Check.feed(x, "speed 8");
        return x;
    }

    private static void refused(String name, Class<?> due, Refused call) {
        BeltHall x = busy();
        c.due(name, due, () -> {
            call.on(x);
            return 0;
        });
        c.due(name + ": fault", 6, x::fault);
        c.due(name + ": all is as it was", Halls.allOf(busy()), () -> Halls.allOf(x));
        BeltHall y = busy();
        Check.outcome(() -> {
            call.on(y);
            return 0;
        });
        c.due(name + ": the tape's text is still there", 2, y::hall);
        c.due(name + ": and is the same", 8, () -> y.count(5));
    }

    /** The TAPE is used up, and fault() told, if it is a text that is read; all else is as it was. */
    private static void refusedText(String name, Class<?> due, String text, int fault, Refused call) {
        BeltHall x = busy();
        Check.feed(x, text);
        c.due(name, due, () -> {
            call.on(x);
            return 0;
        });
        c.due(name + ": the tape is used up", 0, () -> Halls.tape(x));
        c.due(name + ": fault", fault, x::fault);
        BeltHall same = busy();
        same.end(0);
        c.due(name + ": all else is as it was", Halls.allOf(same), () -> Halls.allOf(x));
    }

    private static void noThing() {
        c.sentence("IndexOutOfBoundsException: there is no such THING");
        for (int t : NO_THING) {
            refused("thing(" + t + ", 0)", OUT, x -> x.thing(t, 0));
            refused("liking(" + t + ", 0)", OUT, x -> x.liking(t, 0));
            refused("move(" + t + ", 7)", OUT, x -> x.move(t, 7));
            refused("hold(" + t + ", 5)", OUT, x -> x.hold(t, 5));
            refused("show(" + t + ", false)", OUT, x -> x.show(t, false));
            refused("right(" + t + ", true)", OUT, x -> x.right(t, true));
            refused("rivals(" + t + ", 0)", OUT, x -> x.rivals(t, 0));
            refused("rivals(0, " + t + ")", OUT, x -> x.rivals(0, t));
            refused("ahead(" + t + ", 1, 0)", OUT, x -> x.ahead(t, 1, 0));
            refused("comes(" + t + ")", OUT, x -> x.comes(t));
            refused("led(" + t + ", true)", OUT, x -> x.led(t, true));
        }
    }

    private static void noVisitor() {
        c.sentence("IndexOutOfBoundsException: there is no such VISITOR");
        for (int v : NO_VISITOR) {
            refused("visitor(" + v + ", 0)", OUT, x -> x.visitor(v, 0));
            refused("liking(0, " + v + ")", OUT, x -> x.liking(0, v));
            refused("clean(" + v + ", 5)", OUT, x -> x.clean(v, 5));
            refused("mark(" + v + ", 0, true)", OUT, x -> x.mark(v, 0, true));
            refused("trade(" + v + ", 0)", OUT, x -> x.trade(v, 0));
            refused("trade(0, " + v + ")", OUT, x -> x.trade(0, v));
            refused("about(" + v + ", 0, 0)", OUT, x -> x.about(v, 0, 0));
            refused("last(" + v + ", true)", OUT, x -> x.last(v, true));
            if (v != BeltHall.NONE) {
                refused("dearest(" + v + ")", OUT, x -> x.dearest(v));
            }
        }
        refused("dearest(-2)", OUT, x -> x.dearest(-2));
    }

    private static void noCellMarkGroup() {
        c.sentence("IndexOutOfBoundsException: there is no such CELL, MARK, GROUP");
        for (int n : NO_CELL) {
            refused("move(0, " + n + ")", OUT, x -> x.move(0, n));
            if (n != BeltHall.NONE) {
                refused("steps(" + n + ")", OUT, x -> x.steps(n));
            }
        }
        refused("steps(-2)", OUT, x -> x.steps(-2));
        int[] marks = {6, 7, 31, 32, 38, -1, Integer.MAX_VALUE, Integer.MIN_VALUE};
        for (int m : marks) {
            refused("mark(0, " + m + ", true)", OUT, x -> x.mark(0, m, true));
            refused("mark(0, " + m + ", false)", OUT, x -> x.mark(0, m, false));
        }
        int[] groups = {10, 11, -1, Integer.MAX_VALUE, Integer.MIN_VALUE};
        for (int g : groups) {
            refused("group(" + g + ", false)", OUT, x -> x.group(g, false));
            refused("group(" + g + ", true)", OUT, x -> x.group(g, true));
        }
    }

    private static void noNumber() {
        c.sentence("IllegalArgumentException: a number is none, or two are one");
        int[] holds = {100, -1, Integer.MAX_VALUE, Integer.MIN_VALUE};
        for (int n : holds) {
            refused("hold(0, " + n + ")", ILLEGAL, x -> x.hold(0, n));
        }
        int[] cleans = {10, -1, Integer.MAX_VALUE, Integer.MIN_VALUE};
        for (int n : cleans) {
            refused("clean(0, " + n + ")", ILLEGAL, x -> x.clean(0, n));
        }
        int[] days = {0, 51, -1, Integer.MAX_VALUE, Integer.MIN_VALUE};
        for (int n : days) {
            refused("days(" + n + ")", ILLEGAL, x -> x.days(n));
        }
        for (int n : NO_DAYS) {
            refused("ahead(0, " + n + ", 0)", ILLEGAL, x -> x.ahead(0, n, 0));
            refused("trial(" + n + ")", ILLEGAL, x -> x.trial(n));
            refused("span(" + n + ", true)", ILLEGAL, x -> x.span(n, true));
            refused("span(" + n + ", false)", ILLEGAL, x -> x.span(n, false));
        }
        for (int n = 0; n < 3; n++) {
            int both = n;
            refused("trade(" + n + ", " + n + ")", ILLEGAL, x -> x.trade(both, both));
        }
        for (int n = 0; n < 2; n++) {
            int both = n;
            refused("rivals(" + n + ", " + n + ")", ILLEGAL, x -> x.rivals(both, both));
        }
    }

    private static void anotherWhat() {
        c.sentence("NoSuchElementException: another what");
        int[] far = {-1, -2, Integer.MAX_VALUE, Integer.MIN_VALUE};
        for (int w : far) {
            refused("thing(0, " + w + ")", NO_SUCH, x -> x.thing(0, w));
            refused("visitor(0, " + w + ")", NO_SUCH, x -> x.visitor(0, w));
            refused("about(0, 0, " + w + ")", NO_SUCH, x -> x.about(0, 0, w));
            refused("ahead(0, 0, " + w + ")", NO_SUCH, x -> x.ahead(0, 0, w));
            refused("log(0, " + w + ")", NO_SUCH, x -> x.log(0, w));
        }
        refused("thing(0, 8)", NO_SUCH, x -> x.thing(0, 8));
        refused("visitor(0, 8)", NO_SUCH, x -> x.visitor(0, 8));
        refused("about(0, 0, 3)", NO_SUCH, x -> x.about(0, 0, 3));
        refused("ahead(0, 0, 2)", NO_SUCH, x -> x.ahead(0, 0, 2));
        refused("log(0, 5)", NO_SUCH, x -> x.log(0, 5));
    }

    private static void toldFirst() {
        c.sentence("Of several exceptions the one told first is thrown");
        refused("thing(2, 8)", OUT, x -> x.thing(2, 8));
        refused("visitor(3, 8)", OUT, x -> x.visitor(3, 8));
        refused("hold(2, 100)", OUT, x -> x.hold(2, 100));
        refused("clean(3, 10)", OUT, x -> x.clean(3, 10));
        refused("trade(3, 3)", OUT, x -> x.trade(3, 3));
        refused("trade(-1, -1)", OUT, x -> x.trade(-1, -1));
        refused("rivals(2, 2)", OUT, x -> x.rivals(2, 2));
        refused("rivals(-1, -1)", OUT, x -> x.rivals(-1, -1));
        refused("about(3, 0, 3)", OUT, x -> x.about(3, 0, 3));
        refused("ahead(2, 31, 0)", OUT, x -> x.ahead(2, 31, 0));
        refused("ahead(2, 0, 2)", OUT, x -> x.ahead(2, 0, 2));
        refused("ahead(2, 31, 2)", OUT, x -> x.ahead(2, 31, 2));
        refused("ahead(0, 31, 2)", ILLEGAL, x -> x.ahead(0, 31, 2));
        refused("ahead(0, -1, -1)", ILLEGAL, x -> x.ahead(0, -1, -1));
        BeltHall full = new BeltHall();
        for (int i = 0; i < 12; i++) {
            full.hall();
        }
        Check.feed(full, "cellar 0");
        c.illegal("a 13th text that is wrong", full::hall);
        c.due("its fault", 7, full::fault);
        Check.feed(full, "speed 1");
        c.unsupported("a 13th text that is right", full::hall);
    }

    private static void tapeUsedUp() {
        c.sentence("a call that throws changes nothing but the TAPE, where it is used up, and fault(), where a text is "
            + "read");
        refusedText("hall()", ILLEGAL, "speed 7;cellar 0;thing at 9 hold 1 room 1;", 42, BeltHall::hall);
        refusedText("hall()", ILLEGAL, "cellar 1;visitor age 1 clean 1 group 1 away 101", 44, BeltHall::hall);
        refusedText("law()", ILLEGAL, "like all 9;like all 9 if", 24, BeltHall::law);
        refusedText("law()", ILLEGAL, "x", 0, BeltHall::law);
        refusedText("wants(false)", ILLEGAL, "x", 6, x -> x.wants(false));
        refusedText("wants(true)", ILLEGAL, "speed 1", 6, x -> x.wants(true));
        refusedText("send()", ILLEGAL, "speed 10", 6, BeltHall::send);
        c.sentence("and fault(), where a text is read (also by one that is refused)");
        BeltHall x = busy();
        BeltHall same = busy();
        for (int i = 0; i < 11; i++) {
            Check.feed(x, "");
            x.hall();
            Check.feed(same, "");
            same.hall();
        }
        x.hold(1, 9);
        same.hold(1, 9);
        Check.feed(x, "like");
        Check.outcome(x::law);
        c.due("a fault ahead of it", 4, x::fault);
        Check.feed(x, "speed 1;cellar 0");
        c.unsupported("a 13th text", x::hall);
        c.due("the latest text was right", -1, x::fault);
        c.due("nothing else happened, and the act can be undone", Halls.allOf(same), () -> Halls.allOf(x));
        c.sentence("calls that do not throw, but do nothing");
        BeltHall y = busy();
        y.end(8);
        y.end(-1);
        y.log(99, 0);
        y.count(12);
        y.count(-1);
        y.count(Integer.MAX_VALUE);
        y.count(Integer.MIN_VALUE);
        c.due("all is as it was", Halls.allOf(busy()), () -> Halls.allOf(y));
    }

    private static void setsOfNone() {
        c.sentence("Sets are bits; of none they count for nothing");
        BeltHall x = Check.law(Check.hall(Halls.SMALL), "like 0 9 if a;like 1 9 if b");
        int[] high = {0, 4, 8, 256, 512, 1 << 30, 1 << 31, -4};
        for (int rang = 0; rang < 4; rang++) {
            for (int none : high) {
                int set = rang | none;
                c.due("about(0, " + set + ", 0)", 16, () -> x.about(0, set, 0));
            }
        }
        BeltHall nine = Check.law(Halls.withThings(9), "like 8 1 if a");
        Check.feed(nine, Halls.marked(""));
        nine.hall();
        c.due("the bit of thing 8 counts", 32, () -> nine.about(0, 256, 0));
        c.due("that of thing 9 does not", 32, () -> nine.about(0, 256 + 512, 0));
        c.due("none but it", 32, () -> nine.about(0, 512, 0));
    }

    // ---- calls with none

    private static void noThings() {
        c.sentence("calls with no THING");
        BeltHall x = Check.hall(Halls.times(2, Halls.visitor(5)) + ";visitor age 9 clean 9 group 9 away 50 marks f");
        bare(x, 7);
        c.due("cannot: the first", 1, x::cannot);
        c.due("dearest by none", -1, () -> x.dearest(2));
        c.due("left", 4, () -> x.group(9, true));
        c.due("left", 3, () -> x.group(0, true));
        c.due("rung for by none", 0, () -> x.visitor(0, 5));
        c.due("had by none", -1, () -> x.visitor(0, 6));
        c.due("in no step", -1, () -> x.visitor(0, 7));
        c.due("all sets", 64, () -> x.about(2, 0, 0));
        c.due("never had", -1, () -> x.last(2, false));
        c.due("always passed over", 30, () -> x.last(2, true));
        c.due("who parts", 2, x::send);
        c.outOfBounds("led", () -> x.led(0, false));
        c.outOfBounds("comes", () -> x.comes(0));
        c.outOfBounds("right", () -> x.right(0, false));
        c.outOfBounds("rivals", () -> x.rivals(0, 1));
        c.outOfBounds("move", () -> x.move(0, 0));
        c.outOfBounds("liking", () -> x.liking(0, 0));
    }

    private static void noVisitors() {
        c.sentence("calls with no VISITOR");
        BeltHall x = Halls.withThings(2);
        bare(x, 0);
        c.due("cannot: nobody", 0, x::cannot);
        c.due("all alone", 3, x::alone);
        c.due("rivals for none", 0, () -> x.rivals(0, 1));
        c.due("right", 0, () -> x.right(1, false));
        c.due("right, much", 0, () -> x.right(1, true));
        c.due("ahead, behind one day", 31, () -> x.ahead(1, 30, 0));
        c.due("ahead", 0, () -> x.ahead(1, 30, 1));
        c.due("comes", -1, () -> x.comes(1));
        c.due("led", 0, () -> x.led(1, false));
        c.due("led", -1, () -> x.led(1, true));
        c.due("rings for", 0, () -> x.thing(0, 5));
        c.due("envy", 0, () -> x.thing(0, 7));
        c.due("lonely by the days", 2, () -> x.count(7));
        c.due("send", -1, x::send);
        c.outOfBounds("last", () -> x.last(0, true));
        c.outOfBounds("about", () -> x.about(0, 0, 0));
        c.outOfBounds("clean", () -> x.clean(0, 0));
        c.outOfBounds("mark", () -> x.mark(0, 0, true));
        c.outOfBounds("dearest", () -> x.dearest(0));
        c.outOfBounds("visitor", () -> x.visitor(0, 0));
    }

    /** What nothing and nobody answers, and one DAY. */
    private static void bare(BeltHall x, int visitors) {
        c.due("had", 0, x::had);
        c.due("first", visitors == 0 ? 0 : -1, x::first);
        c.due("most", 0, x::most);
        c.due("dearest", 0, () -> x.dearest(-1));
        c.due("change", -1, () -> x.change(false));
        c.due("change, many", 0, () -> x.change(true));
        c.due("fewest", 0, x::fewest);
        c.due("shared", 0, () -> x.group(0, false));
        c.due("wants", 64, () -> x.wants(false));
        c.due("wants", 0, () -> x.wants(true));
        c.due("trial", 0, () -> x.trial(30));
        c.due("span", 0, () -> x.span(30, true));
        c.due("days", 0, () -> x.days(1));
        c.due("the day", 1, () -> x.count(4));
        c.due("log", -1, () -> x.log(0, 4));
        c.due("steps", 10, () -> x.steps(-1));
        c.due("a step", 9, () -> x.steps(19));
    }

    private static void noneAtAll() {
        c.sentence("calls with no THING and no VISITOR, no LAW, no IMAGE");
        BeltHall x = new BeltHall();
        bare(x, 1);
        c.due("cannot", 0, x::cannot);
        c.due("alone", 0, x::alone);
        c.due("send", -1, x::send);
        c.due("left", 0, () -> x.group(0, true));
        c.due("no law", -1, () -> x.count(3));
        c.due("no image", false, x::back);
        c.due("nothing happened", 1, () -> x.count(11));
        c.due("undone", true, x::undo);
        c.due("no act more", false, x::undo);
        c.due("the day", 0, () -> x.count(4));
        int[] any = {0, 1, -1, Integer.MAX_VALUE, Integer.MIN_VALUE};
        for (int n : any) {
            c.outOfBounds("thing " + n, () -> x.thing(n, n));
            c.outOfBounds("visitor " + n, () -> x.visitor(n, n));
            c.outOfBounds("liking " + n, () -> x.liking(n, n));
            c.outOfBounds("move " + n, () -> x.move(n, n));
            c.outOfBounds("hold " + n, () -> x.hold(n, n));
            c.outOfBounds("show " + n, () -> x.show(n, true));
            c.outOfBounds("clean " + n, () -> x.clean(n, n));
            c.outOfBounds("mark " + n, () -> x.mark(n, n, true));
            c.outOfBounds("trade " + n, () -> { x.trade(n, n); return 0; });
            c.outOfBounds("right " + n, () -> x.right(n, true));
            c.outOfBounds("rivals " + n, () -> x.rivals(n, n));
            c.outOfBounds("about " + n, () -> x.about(n, n, n));
            c.outOfBounds("ahead " + n, () -> x.ahead(n, n, n));
            c.outOfBounds("last " + n, () -> x.last(n, true));
            c.outOfBounds("comes " + n, () -> x.comes(n));
            c.outOfBounds("led " + n, () -> x.led(n, true));
        }
        Check.feed(x, 0, 1);
        c.illegal("wants of nobody", () -> x.wants(false));
        Check.feed(x, 0, 1);
        c.illegal("send of nobody", x::send);
    }

    public static void main(String[] args) {
        noThing();
        noVisitor();
        noCellMarkGroup();
        noNumber();
        anotherWhat();
        toldFirst();
        tapeUsedUp();
        setsOfNone();
        noThings();
        noVisitors();
        noneAtAll();
        c.finish();
    }
}
