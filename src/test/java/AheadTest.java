/** Promises 31 to 38: days ahead, steps, trials and spans, the log. */
public final class AheadTest {
    private static final Check c = new Check();
    // Thing 0 has the first visitor at once; thing 1 waits until it is lonely enough for 5 of 9.
    private static final String HALL = "speed 1;thing at 0 hold 0 room 1;thing at 3 hold 9 room 2;"
        + "visitor age 20 clean 7 group 0 away 0;visitor age 50 clean 5 group 0 away 100";

    private static void ahead() {
        BeltHall x = Check.hall(HALL);
        int[] lonely = {0, 1, 2, 3, 4, 0, 1};
        int[] had = {0, 0, 0, 0, 0, 2, 0};
        for (int i = 0; i < lonely.length; i++) {
            int n = i;
            c.due("lonely ahead by " + n, lonely[i], () -> x.ahead(1, n, 0));
            c.due("whom ahead by " + n, had[i], () -> x.ahead(1, n, 1));
        }
        c.due("30 days", 0, () -> x.ahead(1, 30, 0));
        c.due("30 days", 2, () -> x.ahead(1, 30, 1));
        c.due("29 days", 4, () -> x.ahead(1, 29, 0));
        c.illegal("ahead(1, 31, 2)", () -> x.ahead(1, 31, 2));
        c.illegal("ahead(1, -1, 0)", () -> x.ahead(1, -1, 0));
        c.noSuch("ahead(1, 1, 2)", () -> x.ahead(1, 1, 2));
        c.noSuch("ahead(1, 1, -1)", () -> x.ahead(1, 1, -1));
        c.outOfBounds("ahead(2, 31, 2)", () -> x.ahead(2, 31, 2));
        c.due("first had at last", 1, () -> x.last(0, false));
        c.due("never passed over", 0, () -> x.last(0, true));
        c.due("had at last", 5, () -> x.last(1, false));
        c.due("passed over", 24, () -> x.last(1, true));
        c.outOfBounds("last(2)", () -> x.last(2, true));
        c.outOfBounds("last(-1)", () -> x.last(-1, false));
        c.due("comes", 1, () -> x.comes(0));
        c.due("comes", 5, () -> x.comes(1));
        c.outOfBounds("comes(2)", () -> x.comes(2));
        c.outOfBounds("comes(-1)", () -> x.comes(-1));
        x.hold(1, 34);
        c.due("comes on day 30", 30, () -> x.comes(1));
        c.due("had on day 30", 30, () -> x.last(1, false));
        c.due("passed over on all others", 29, () -> x.last(1, true));
        x.hold(1, 35);
        c.due("comes too late", -1, () -> x.comes(1));
        c.due("had too late", -1, () -> x.last(1, false));
        c.due("passed over on all", 30, () -> x.last(1, true));
        c.due("nothing stays", 0, () -> x.count(4) + x.count(7) + x.count(9) + x.count(10));
        c.due("no draws", 1, () -> x.seed(1));
        Check.law(x, "like all 9 if day>6");
        c.due("the day goes on ahead", 8, () -> x.comes(0));
    }

    private static void steps() {
        BeltHall x = new BeltHall();
        int[] all = {20, 10, 7, 5, 4, 4, 3, 3, 3};
        for (int i = 0; i < 9; i++) {
            Check.feed(x, "speed " + (i + 1));
            x.hall();
            int speed = i + 1;
            c.due("steps at speed " + speed, all[i], () -> x.steps(-1));
            c.due("the last cell at speed " + speed, 19 / speed, () -> x.steps(19));
            c.due("the first cell at speed " + speed, 0, () -> x.steps(0));
            c.due("cell " + speed, 1, () -> x.steps(speed));
        }
        c.outOfBounds("steps(20)", () -> x.steps(20));
        c.outOfBounds("steps(-2)", () -> x.steps(-2));
    }

    private static void trials() {
        BeltHall x = Check.hall("thing at 0 hold 0 room 3;visitor age 1 clean 1 group 0 away 38;"
            + "visitor age 1 clean 1 group 0 away 60");
        // From seed 1 the draws modulo 100 begin 38, 58, 13, 15.
        c.due("a day from seed 1", 1, () -> x.trial(1));
        c.due("two days", 1, () -> x.trial(2));
        c.due("none", 0, () -> x.trial(0));
        c.illegal("trial(31)", () -> x.trial(31));
        c.illegal("trial(-1)", () -> x.trial(-1));
        c.due("nothing stays", 0, () -> x.count(4) + x.count(9) + x.count(10) + x.count(11));
        c.due("nor of the draws", 1, () -> x.seed(1));
        int least = 1000;
        int most = 0;
        for (int seed = 1; seed <= 6; seed++) {
            x.seed(seed);
            int had = x.trial(7);
            least = Math.min(least, had);
            most = Math.max(most, had);
        }
        int fewest = least;
        int greatest = most;
        x.seed(99);
        c.due("span, the fewest", fewest, () -> x.span(7, false));
        c.due("span, the most", greatest, () -> x.span(7, true));
        c.due("the seed stays", 99, () -> x.seed(99));
        c.due("span of none", 0, () -> x.span(0, true));
        c.illegal("span(31)", () -> x.span(31, true));
        c.illegal("span(-1)", () -> x.span(-1, false));
        extreme(1, true);
        extreme(1, false);
        extreme(6, true);
        extreme(6, false);
        int trial = x.trial(30);
        c.due("a trial comes true", trial, () -> x.days(30));
    }

    /** One visitor who comes most often, or least, from this seed alone of 1 to 6. */
    private static void extreme(int seed, boolean most) {
        for (int away = 1; away < 100; away++) {
            for (int n = 1; n <= 30; n++) {
                int[] had = new int[7];
                boolean alone = true;
                for (int s = 1; s <= 6; s++) {
                    had[s] = drawn(s, n, away);
                }
                for (int s = 1; s <= 6; s++) {
                    alone &= s == seed || (most ? had[s] < had[seed] : had[s] > had[seed]);
                }
                if (alone) {
                    spanIs(away, n, most, had[seed]);
                    return;
                }
            }
        }
        c.due("a hall for seed " + seed, true, () -> false);
    }

    private static int drawn(int seed, int n, int away) {
        int drawn = seed;
        int had = 0;
        for (int i = 0; i < n; i++) {
            drawn = drawn * 1103515245 + 12345;
            had += (drawn >>> 16 & 0x7fff) % 100 < away ? 0 : 1;
        }
        return had;
    }

    private static void spanIs(int away, int n, boolean most, int due) {
        BeltHall x = Check.hall("thing at 0 hold 0 room 1;visitor age 1 clean 1 group 0 away " + away);
        c.due("span(" + n + ", " + most + ") with away " + away, due, () -> x.span(n, most));
        x.show(0, false);
        c.due("of what is now", 0, () -> x.span(n, most));
    }

    private static void log() {
        BeltHall x = Check.hall(HALL);
        c.due("empty", -1, () -> x.log(0, 0));
        c.due("had by none", 0, () -> x.led(0, false));
        c.due("whom by none", -1, () -> x.led(0, true));
        x.clean(0, 9);
        x.days(2);
        x.show(0, false);
        x.days(1);
        int[][] rows = {{2, 0, 1, 9, 3}, {1, 0, 0, 9, 0}, {0, 0, 0, 9, 0}};
        for (int ago = 0; ago < 3; ago++) {
            for (int what = 0; what < 5; what++) {
                int a = ago;
                int w = what;
                c.due("log(" + a + ", " + w + ")", rows[a][w], () -> x.log(a, w));
            }
        }
        c.due("log(3, 0)", -1, () -> x.log(3, 0));
        c.due("log(-1, 0)", -1, () -> x.log(-1, 0));
        c.noSuch("log(0, 5)", () -> x.log(0, 5));
        c.noSuch("log(99, -1)", () -> x.log(99, -1));
        c.due("led by 0", 2, () -> x.led(0, false));
        c.due("whom 0", 0, () -> x.led(0, true));
        x.trade(0, 1);
        c.due("the log stays", 0, () -> x.led(0, true));
        // Visitor 1 is he who never stays away now.
        x.days(1);
        c.due("of several the least", 0, () -> x.led(1, true));
        x.days(1);
        c.due("whom it had most", 1, () -> x.led(1, true));
        c.due("rows", 5, () -> x.count(10));
        x.days(50);
        c.due("rows", 55, () -> x.count(10));
        c.due("the first one still", 0, () -> x.log(54, 0));
        x.days(8);
        c.due("rows, at most", 60, () -> x.count(10));
        c.due("had in all", 63, () -> x.count(9));
        c.due("the earliest is gone", 3, () -> x.log(59, 0));
        c.due("log(60, 0)", -1, () -> x.log(60, 0));
        c.due("led by 0 is gone", 0, () -> x.led(0, false));
        c.due("led by 1", 60, () -> x.led(1, false));
        c.outOfBounds("led(2)", () -> x.led(2, true));
        c.outOfBounds("led(-1)", () -> x.led(-1, false));
    }

    public static void main(String[] args) {
        ahead();
        steps();
        trials();
        log();
        c.finish();
    }
}
