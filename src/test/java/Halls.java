import java.util.ArrayList;
import java.util.List;

/** Halls for the tests of boundary cases, and all that can be asked of one. */
final class Halls {
    /** Two THINGS, three VISITORS, of whom some are had by each; few enough to be asked for all in one run. */
    static final String SMALL = "speed 3;thing at 0 hold 0 room 1;thing at 19 hold 4 room 3;"
        + "visitor age 20 clean 5 group 1 away 0 marks ab;visitor age 40 clean 7 group 2 away 50;"
        + "visitor age 60 clean 2 group 1 away 100 marks f";

    private Halls() {
    }

    static String thing(int cell, int hold, int room) {
        return "thing at " + cell + " hold " + hold + " room " + room;
    }

    static String visitor(int clean) {
        return visitor(clean, 0);
    }

    static String visitor(int clean, int away) {
        return "visitor age 1 clean " + clean + " group 0 away " + away;
    }

    static String marked(String marks) {
        return visitor(0) + (marks.isEmpty() ? "" : " marks " + marks);
    }

    /** So many LINES of one kind, one behind another. */
    static String times(int n, String line) {
        StringBuilder b = new StringBuilder();
        for (int i = 0; i < n; i++) {
            b.append(i == 0 ? "" : ";").append(line);
        }
        return b.toString();
    }

    static BeltHall withThings(int n) {
        BeltHall x = new BeltHall();
        for (int i = 0; i < n; i++) {
            Check.feed(x, thing(i, 0, 1));
            x.hall();
        }
        return x;
    }

    static BeltHall withVisitors(int n) {
        BeltHall x = new BeltHall();
        for (int i = 0; i < n; i++) {
            Check.feed(x, "visitor age " + i + " clean " + i % 10 + " group 0 away 0");
            x.hall();
        }
        return x;
    }

    /** How many bytes THE TAPE has; it has as many afterwards. */
    static int tape(BeltHall x) {
        int fed = x.feed(0, 0, 0, 0, 0);
        if (fed >= 0) {
            x.end(fed - 20);
            return fed - 20;
        }
        for (int n = 400; n > 380; n--) {
            if (x.end(n)) {
                return n;
            }
        }
        return -2;
    }

    static int seedOf(BeltHall x) {
        int seed = x.seed(0);
        x.seed(seed);
        return seed;
    }

    /** What there is but for THE TAPE and fault(), as it can be asked for. */
    static List<Integer> told(BeltHall x) {
        List<Integer> all = new ArrayList<>();
        for (int what = 0; what <= 11; what++) {
            all.add(x.count(what));
        }
        all.add(seedOf(x));
        for (int thing = 0; thing < x.count(0); thing++) {
            for (int what = 0; what <= 7; what++) {
                all.add(x.thing(thing, what));
            }
        }
        for (int visitor = 0; visitor < x.count(1); visitor++) {
            for (int what = 0; what <= 7; what++) {
                all.add(x.visitor(visitor, what));
            }
            for (int thing = 0; thing < x.count(0); thing++) {
                all.add(x.liking(thing, visitor));
            }
        }
        for (int ago = 0; ago < 4; ago++) {
            for (int what = 0; what <= 4; what++) {
                all.add(x.log(ago, what));
            }
        }
        return all;
    }

    /** What could be, of all that there is. */
    static List<Integer> asked(BeltHall x) {
        List<Integer> all = new ArrayList<>();
        all.add(x.had());
        all.add(x.first());
        all.add(x.most());
        all.add(x.cannot());
        all.add(x.fewest());
        all.add(x.alone());
        all.add(x.change(false));
        all.add(x.change(true));
        all.add(x.dearest(-1));
        for (int visitor = 0; visitor < x.count(1); visitor++) {
            all.add(x.dearest(visitor));
            all.add(x.last(visitor, true));
            all.add(x.about(visitor, 1, 0));
        }
        for (int thing = 0; thing < x.count(0); thing++) {
            all.add(x.right(thing, false));
            all.add(x.right(thing, true));
            all.add(x.comes(thing));
            all.add(x.led(thing, false));
            all.add(x.led(thing, true));
            all.add(x.ahead(thing, 2, 1));
        }
        for (int group = 0; group < 3; group++) {
            all.add(x.group(group, false));
            all.add(x.group(group, true));
        }
        all.add(x.trial(9));
        all.add(x.span(9, false));
        all.add(x.span(9, true));
        return all;
    }

    /** That, and what is behind it: THE TAPE's length, what comes by undoing, and THE IMAGE. */
    static List<Integer> allOf(BeltHall x) {
        List<Integer> all = told(x);
        all.add(tape(x));
        while (x.undo()) {
            all.add(x.count(4));
            all.add(x.count(6));
            all.add(x.count(11));
            for (int thing = 0; thing < x.count(0); thing++) {
                all.add(x.thing(thing, 0));
                all.add(x.thing(thing, 1));
            }
        }
        all.add(x.back() ? 1 : 0);
        all.addAll(told(x));
        return all;
    }
}
