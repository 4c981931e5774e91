/**
 * The boundary cases of ringing, of days and of acts: Terms, part 2, and promises 7 to 18, 31, 38 and 39, a test for
 * each sentence that names one.
 */
public final class DayEdgesTest {
    private static final Check c = new Check();

    private static BeltHall one(int hold, int clean) {
        return Check.hall(Halls.thing(0, hold, 1) + ";" + Halls.visitor(clean));
    }

    private static void ringsIs(String name, BeltHall x, boolean due) {
        c.due(name + ": rings", due ? 1 : 0, () -> x.thing(0, 5));
        c.due(name + ": rung for", due ? 1 : 0, () -> x.visitor(0, 5));
        c.due(name + ": had", due ? 1 : 0, x::had);
        c.due(name + ": by", due ? 0 : -1, () -> x.visitor(0, 6));
    }

    // ---- Terms, part 2: what rings

    private static void shown() {
        c.sentence("A THING RINGS for a VISITOR: it is SHOWN");
        BeltHall x = one(0, 9);
        ringsIs("shown", x, true);
        x.show(0, false);
        ringsIs("in the cellar", x, false);
        c.due("it likes as before", 9, () -> x.liking(0, 0));
        x.show(0, true);
        ringsIs("shown again", x, true);
    }

    private static void aboveNone() {
        c.sentence("LIKING is above 0");
        ringsIs("liking 0, hold 0", one(0, 0), false);
        ringsIs("liking 1, hold 0", one(0, 1), true);
        ringsIs("liking 1, hold 1", one(1, 1), true);
        BeltHall x = one(3, 0);
        x.days(9);
        c.due("lonelier than its hold", 9, () -> x.thing(0, 4));
        ringsIs("liking 0, hold less lonely below 0", x, false);
        x.clean(0, 1);
        ringsIs("liking 1, hold less lonely below 0", x, true);
    }

    private static void atLeastHold() {
        c.sentence("and at least HOLD less LONELY (0 at least)");
        for (int clean = 1; clean <= 9; clean++) {
            ringsIs("as much as hold", one(clean, clean), true);
            ringsIs("less than hold", one(clean + 1, clean), false);
            ringsIs("more than hold", one(clean - 1, clean), true);
        }
        BeltHall x = one(99, 5);
        x.days(50);
        x.days(43);
        ringsIs("hold 99 less lonely 93", x, false);
        x.days(1);
        c.due("lonely", 94, () -> x.thing(0, 4));
        ringsIs("hold 99 less lonely 94", x, true);
        x.hold(0, 98);
        x.clean(0, 4);
        ringsIs("hold 98 less lonely 94", x, true);
        x.clean(0, 3);
        ringsIs("hold 98 less lonely 94, liking 3", x, false);
    }

    // ---- Terms, part 2: LED past

    private static void stepCells() {
        c.sentence("in STEP k (from 0 on) one passes the CELLS from k times SPEED on, SPEED many");
        for (int s = 1; s <= 9; s++) {
            int speed = s;
            BeltHall x = Check.hall("speed " + speed + ";" + Halls.thing(0, 0, 1) + ";" + Halls.visitor(1));
            int step = 0;
            int left = speed;
            for (int i = 0; i <= 19; i++) {
                int cell = i;
                int due = step;
                x.move(0, cell);
                c.due("speed " + speed + ": the step of cell " + cell, due, () -> x.steps(cell));
                c.due("speed " + speed + ": had in it", due, () -> x.visitor(0, 7));
                left--;
                step += left == 0 ? 1 : 0;
                left = left == 0 ? speed : left;
            }
        }
    }

    private static void firstStep() {
        c.sentence("the first STEP in which some THING that has room yet today RINGS");
        for (int s = 1; s <= 9; s++) {
            int speed = s;
            String last = Halls.thing(speed - 1, 0, 1);
            String next = Halls.thing(speed, 0, 1);
            BeltHall x = Check.law(Check.hall("speed " + speed, next + ";" + last + ";" + Halls.visitor(1)),
                "like 0 99;like 1 1");
            c.due("the last cell of step 0 is ahead of the first one of step 1", 1, () -> x.visitor(0, 6));
            x.hold(1, 2);
            c.due("what does not ring is passed", 0, () -> x.visitor(0, 6));
            x.hold(1, 0);
            x.move(1, 2 * speed - 1);
            c.due("cell " + (2 * speed - 1), 0, () -> x.visitor(0, 6));
            x.move(0, 2 * speed);
            c.due("cell " + 2 * speed + " is in step 2", 1, () -> x.visitor(0, 6));
            c.due("step 1 is first", 1, () -> x.visitor(0, 7));
        }
    }

    private static void greatest() {
        c.sentence("of all such in this STEP the one whose LIKING is the greatest (of several the least)");
        BeltHall x = Check.law(Check.hall("speed 4;thing at 7 hold 0 room 1;thing at 6 hold 0 room 1;"
            + "thing at 5 hold 0 room 1;thing at 4 hold 0 room 1;" + Halls.visitor(1)),
            "like 0 5;like 1 6;like 2 6;like 3 5");
        c.due("the least of the two greatest", 1, () -> x.visitor(0, 6));
        x.show(1, false);
        c.due("the other one", 2, () -> x.visitor(0, 6));
        x.hold(2, 7);
        c.due("one that does not ring is none", 0, () -> x.visitor(0, 6));
        x.move(0, 8);
        c.due("the greatest of this step alone", 3, () -> x.visitor(0, 6));
        x.move(0, 3);
        c.due("an earlier step", 0, () -> x.visitor(0, 6));
    }

    private static void room() {
        c.sentence("room yet today (fewer than ROOM)");
        for (int r = 1; r <= 3; r++) {
            int room = r;
            BeltHall x = Check.hall(Halls.thing(0, 0, room) + ";" + Halls.thing(2, 0, 3),
                Halls.times(5, Halls.visitor(1)));
            c.due("room " + room, (1 << room) - 1, () -> x.thing(0, 6));
            c.due("one more is led on", 1, () -> x.visitor(room, 6));
            c.due("days(1)", Math.min(5, room + 3), () -> x.days(1));
            c.due("room again on the next day", (1 << room) - 1, () -> x.thing(0, 6));
            x.move(1, 1);
            c.due("in the same step the least", (1 << room) - 1, () -> x.thing(0, 6));
            Check.law(x, "like 0 2;like 1 1");
            c.due("in the same step the one that likes less", 1, () -> x.visitor(room, 6));
        }
    }

    private static void byNone() {
        c.sentence("none, if none does");
        BeltHall x = one(2, 1);
        c.due("by none", -1, () -> x.visitor(0, 6));
        c.due("in no step", -1, () -> x.visitor(0, 7));
        c.due("a day", 0, () -> x.days(1));
        c.due("no row", 0, () -> x.count(10));
    }

    // ---- Terms, part 2: a DAY

    /** DRAW and SEED without an int that goes round. */
    private static long next(long seed) {
        return Math.floorMod(Math.floorMod(seed, 1L << 32) * 1103515245L % (1L << 32) + 12345, 1L << 32);
    }

    private static int draw(int seed) {
        return (int) (next(seed) / 65536 % 32768 % 100);
    }

    private static int seedThatDraws(int draw, boolean highestBit) {
        for (int seed = 1; seed < 1_000_000; seed++) {
            if (draw(seed) == draw && next(seed) >= 1L << 31 == highestBit) {
                return seed;
            }
        }
        throw new IllegalStateException("no such seed");
    }

    private static void staysAway(int seed, int away, boolean due) {
        BeltHall x = Check.hall(Halls.thing(0, 0, 1) + ";" + Halls.visitor(1, away));
        x.seed(seed);
        c.due("seed " + seed + " away " + away, due ? 0 : 1, () -> x.trial(1));
        c.due("seed " + seed + " away " + away, due ? 0 : 1, () -> x.days(1));
        c.due("the seed behind " + seed, (int) next(seed), () -> x.seed(0));
    }

    private static void draws() {
        c.sentence("DRAW modulo 100 below AWAY: one stays away; SEED as an int that goes round; bits 16 to 30");
        int[] draws = {0, 1, 49, 50, 98, 99};
        for (int draw : draws) {
            for (int bit = 0; bit < 2; bit++) {
                int seed = seedThatDraws(draw, bit == 1);
                staysAway(seed, draw, false);
                staysAway(seed, draw + 1, true);
                staysAway(seed, 0, false);
                staysAway(seed, 100, true);
            }
        }
        int[] seeds = {0, 1, -1, 2, Integer.MIN_VALUE, Integer.MAX_VALUE, 0x7FFF0000, 0x8000FFFF, -12345};
        for (int seed : seeds) {
            staysAway(seed, draw(seed), false);
            staysAway(seed, draw(seed) + 1, true);
        }
        c.sentence("SEED 1 at first");
        c.due("at first", 1, () -> new BeltHall().seed(9));
        c.sentence("of each VISITOR, by numbers: a DRAW");
        BeltHall x = Check.hall(Halls.times(7, Halls.visitor(0, 0)), Halls.times(3, Halls.visitor(0, 100)));
        x.days(3);
        long drawn = 1;
        for (int i = 0; i < 30; i++) {
            drawn = next(drawn);
        }
        int seed = (int) drawn;
        c.due("ten draws a day, also of who never or always stays away", seed, () -> x.seed(1));
        BeltHall y = Halls.withThings(3);
        y.days(50);
        c.due("no draw without visitors", 1, () -> y.seed(1));
        int first = 0;
        int second = 0;
        for (int s = 1; second == 0; s++) {
            if (draw(s) < 50 && draw((int) next(s)) >= 50) {
                first = s;
            } else if (draw(s) >= 50 && draw((int) next(s)) < 50 && first != 0) {
                second = s;
            }
        }
        BeltHall z = Check.hall(Halls.thing(0, 0, 3) + ";" + Halls.times(2, Halls.visitor(1, 50)));
        z.seed(first);
        z.days(1);
        c.due("the first stays away", 1, () -> z.log(0, 1));
        z.seed(second);
        z.days(1);
        c.due("the second stays away", 0, () -> z.log(0, 1));
    }

    private static void lonely() {
        c.sentence("LONELY of each THING that is SHOWN is 0, if it had somebody, else 1 more (99 at most)");
        BeltHall x = Check.hall("speed 9;thing at 0 hold 0 room 3;thing at 1 hold 9 room 1;thing at 2 hold 9 room 1;"
            + "cellar 2;" + Halls.visitor(5));
        x.days(1);
        int[] lonely = {0, 1, 0};
        for (int i = 0; i < 3; i++) {
            int thing = i;
            c.due("lonely of " + i, lonely[i], () -> x.thing(thing, 4));
        }
        x.show(1, false);
        x.show(2, true);
        x.days(2);
        int[] then = {0, 1, 2};
        for (int i = 0; i < 3; i++) {
            int thing = i;
            c.due("lonely of " + i + " then", then[i], () -> x.thing(thing, 4));
        }
        BeltHall y = one(50, 0);
        y.days(50);
        y.days(48);
        c.due("98", 98, () -> y.thing(0, 4));
        c.due("99 ahead", 99, () -> y.ahead(0, 1, 0));
        c.due("99 ahead at most", 99, () -> y.ahead(0, 2, 0));
        y.days(1);
        c.due("99", 99, () -> y.thing(0, 4));
        y.days(1);
        c.due("99 at most", 99, () -> y.thing(0, 4));
        y.days(50);
        c.due("99 at most", 99, () -> y.count(7));
        y.show(0, false);
        y.days(1);
        c.due("the cellar keeps it", 99, () -> y.thing(0, 4));
        y.show(0, true);
        y.clean(0, 1);
        y.days(1);
        c.due("0 at once", 0, () -> y.thing(0, 4));
        BeltHall z = Check.hall(Halls.thing(0, 0, 1) + ";" + Halls.visitor(9, 100));
        z.days(1);
        c.due("who stays away is not had", 1, () -> z.thing(0, 4));
    }

    private static void dayOnDay() {
        c.sentence("DAY is 1 more");
        BeltHall x = new BeltHall();
        x.days(1);
        c.due("one", 1, () -> x.count(4));
        x.days(50);
        c.due("and fifty", 51, () -> x.count(4));
        BeltHall far = Check.law(one(0, 0), "like all 1 if day>999");
        for (int i = 0; i < 20; i++) {
            far.days(50);
        }
        c.due("day 1000", 1000, () -> far.count(4));
        c.due("nobody until day 999", 0, () -> far.count(9));
        c.due("on day 1000", 1, () -> far.days(1));
        c.due("of four digits", 1000, () -> far.log(0, 0));
        c.due("and on", 1001, () -> far.count(4));
        BeltHall y = Check.law(one(0, 0), "like all 1 if day>0 and lonely>0");
        c.due("not on day 0", 0, y::had);
        c.due("from day 1 on, every other day", 2, () -> y.days(5));
        c.due("day 3 was the last", 3, () -> y.log(0, 0));
        c.due("and day 1 the first", 1, () -> y.log(1, 0));
    }

    private static void tomorrow() {
        c.sentence("TOMORROW: a DAY from now on which nobody stays away; nothing stays (no draws)");
        BeltHall x = Check.hall(Halls.thing(0, 0, 2) + ";" + Halls.thing(9, 99, 1) + ";"
            + Halls.times(3, Halls.visitor(1, 100)));
        c.due("all come", 3, x::had);
        c.due("by none on a day", 0, () -> x.trial(30));
        BeltHall y = Check.hall(Halls.thing(0, 0, 2) + ";" + Halls.thing(9, 99, 1) + ";"
            + Halls.times(3, Halls.visitor(1, 100)));
        x.first();
        x.change(true);
        x.right(0, false);
        x.group(0, true);
        x.ahead(1, 30, 0);
        x.last(0, true);
        x.comes(1);
        x.trial(30);
        x.span(30, true);
        x.about(0, 1, 1);
        x.dearest(0);
        c.due("nothing stays", Halls.allOf(y), () -> Halls.allOf(x));
    }

    private static void aheadBy() {
        c.sentence("AHEAD by N DAYS (0 to 30): as so many such DAYS went by");
        BeltHall x = Check.hall(Halls.thing(0, 30, 1) + ";" + Halls.visitor(1, 100));
        c.due("by 0: as it is", 0, () -> x.ahead(0, 0, 0));
        c.due("by 1", 1, () -> x.ahead(0, 1, 0));
        c.due("by 29", 29, () -> x.ahead(0, 29, 0));
        c.due("on the 29th", 0, () -> x.ahead(0, 29, 1));
        c.due("by 30: hold 30 less lonely 29", 0, () -> x.ahead(0, 30, 0));
        c.due("on the 30th", 1, () -> x.ahead(0, 30, 1));
        c.illegal("by 31", () -> x.ahead(0, 31, 0));
        c.illegal("by -1", () -> x.ahead(0, -1, 0));
        x.days(7);
        c.due("by 0: lonely as it is", 7, () -> x.ahead(0, 0, 0));
        BeltHall y = one(0, 1);
        y.days(1);
        c.due("whom it had by 0", 0, () -> y.ahead(0, 0, 1));
        c.due("whom it had by 1", 1, () -> y.ahead(0, 1, 1));
    }

    // ---- Terms, part 2: ACTS

    private static void idleActs() {
        c.sentence("ACTS (also where one changes nothing)");
        BeltHall x = Check.hall(Halls.SMALL);
        x.move(0, 0);
        c.due("moved to where it is", 1, () -> x.count(11));
        x.hold(0, 0);
        c.due("hold as it was", 2, () -> x.count(11));
        x.show(0, true);
        c.due("shown as it was", 3, () -> x.count(11));
        x.clean(0, 5);
        c.due("clean as it was", 4, () -> x.count(11));
        x.mark(0, 0, true);
        c.due("a mark that is on", 5, () -> x.count(11));
        x.mark(0, 5, false);
        c.due("a mark that is off", 6, () -> x.count(11));
        BeltHall y = Check.hall(Halls.times(2, Halls.visitor(4)));
        y.trade(0, 1);
        c.due("two of the same numbers", 1, () -> y.count(11));
        y.days(50);
        c.due("days without a thing", 2, () -> y.count(11));
        y.seed(3);
        c.due("the seed is no act", 2, () -> y.count(11));
        y.image();
        c.due("nor is the image", 2, () -> y.count(11));
        y.end(0);
        y.feed(0, 0, 0, 0, 0);
        c.due("nor is the tape", 2, () -> y.count(11));
        for (int i = 0; i < 6; i++) {
            x.undo();
        }
        c.due("each was one", 0, () -> x.count(11));
    }

    private static void moves() {
        c.sentence("a THING is moved to a CELL (if another one has it, that one comes to where it was)");
        BeltHall x = Check.hall("thing at 0 hold 1 room 1;thing at 19 hold 2 room 2;thing at 7 hold 3 room 3;cellar 2");
        c.due("to its own", -1, () -> x.move(0, 0));
        c.due("to a free one", -1, () -> x.move(0, 1));
        c.due("to the first", -1, () -> x.move(0, 0));
        c.due("to another one's", 1, () -> x.move(0, 19));
        c.due("it is there", 19, () -> x.thing(0, 0));
        c.due("the other one is where it was", 0, () -> x.thing(1, 0));
        c.due("to one's in the cellar", 2, () -> x.move(1, 7));
        c.due("who comes to where it was", 0, () -> x.thing(2, 0));
        c.due("of the cellar", 0, () -> x.move(2, 19));
        c.due("thing 0 comes to where that was", 0, () -> x.thing(0, 0));
        c.due("it is there", 19, () -> x.thing(2, 0));
        c.due("the third one stays", 7, () -> x.thing(1, 0));
        c.due("hold goes along", 3, () -> x.thing(2, 1));
        c.due("the cellar, too", 0, () -> x.thing(2, 3));
        c.outOfBounds("cell 20", () -> x.move(0, 20));
        c.outOfBounds("cell -1", () -> x.move(0, -1));
        c.outOfBounds("thing 3", () -> x.move(3, 0));
        c.outOfBounds("thing -1", () -> x.move(-1, 0));
    }

    private static void nothingElse() {
        c.sentence("ACTS: each changes what it tells alone");
        BeltHall x = Check.hall("thing at 3 hold 50 room 2;thing at 4 hold 60 room 1;" + Halls.visitor(1));
        x.days(7);
        c.due("lonely", 7, () -> x.thing(0, 4));
        x.move(0, 4);
        x.hold(0, 70);
        x.show(0, false);
        x.show(0, true);
        x.clean(0, 2);
        x.mark(0, 3, true);
        int[][] due = {{4, 70, 2, 1, 7}, {3, 60, 1, 1, 7}, {1, 2, 0, 0, 8}};
        for (int i = 0; i < 5; i++) {
            int what = i;
            c.due("thing(0, " + i + ")", due[0][i], () -> x.thing(0, what));
            c.due("thing(1, " + i + ")", due[1][i], () -> x.thing(1, what));
            c.due("visitor(0, " + i + ")", due[2][i], () -> x.visitor(0, what));
        }
        c.due("the day", 7, () -> x.count(4));
        c.due("the speed", 2, () -> x.count(5));
    }

    private static void numbersTold() {
        c.sentence("Promise 11: HOLD is told: what it was. IllegalArgumentException: it is none");
        BeltHall x = Check.hall(Halls.SMALL);
        c.due("the most", 0, () -> x.hold(0, 99));
        c.due("the least", 99, () -> x.hold(0, 0));
        c.illegal("one more", () -> x.hold(0, 100));
        c.illegal("one less", () -> x.hold(0, -1));
        c.due("as it was", 0, () -> x.thing(0, 1));
        c.due("of another one", 4, () -> x.hold(1, 1));
        c.sentence("Promise 13: CLEAN is told: what it was. IllegalArgumentException: it is none");
        c.due("the most", 5, () -> x.clean(0, 9));
        c.due("the least", 9, () -> x.clean(0, 0));
        c.illegal("one more", () -> x.clean(0, 10));
        c.illegal("one less", () -> x.clean(0, -1));
        c.due("as it was", 0, () -> x.visitor(0, 1));
        c.due("of the last one", 2, () -> x.clean(2, 2));
        c.sentence("Promise 12: SHOWN, or to the cellar: whether that changed");
        c.due("shown already", false, () -> x.show(1, true));
        c.due("to the cellar", true, () -> x.show(1, false));
        c.due("there already", false, () -> x.show(1, false));
        c.due("one alone", 1, () -> x.count(6));
        c.due("shown", true, () -> x.show(1, true));
    }

    private static void marksTold() {
        c.sentence("Promise 14: a MARK (0 to 5) is put on, or taken off: whether that changed");
        BeltHall x = Check.hall(Halls.marked(""));
        for (int i = 0; i < 6; i++) {
            int mark = i;
            c.due("off already", false, () -> x.mark(0, mark, false));
            c.due("on", true, () -> x.mark(0, mark, true));
            c.due("on already", false, () -> x.mark(0, mark, true));
            c.due("so many", (2 << mark) - 1, () -> x.visitor(0, 4));
        }
        c.outOfBounds("mark 6", () -> x.mark(0, 6, true));
        c.outOfBounds("mark -1", () -> x.mark(0, -1, false));
        c.outOfBounds("mark 32", () -> x.mark(0, 32, false));
        for (int i = 0; i < 6; i++) {
            int mark = i;
            c.due("off", true, () -> x.mark(0, mark, false));
            c.due("so many", 63 & -(2 << mark), () -> x.visitor(0, 4));
        }
    }

    private static void trades() {
        c.sentence("two VISITORS change their numbers (AGE, CLEAN, GROUP, AWAY, MARKS; THE LOG stays)");
        BeltHall x = Check.hall(Halls.thing(0, 0, 3) + ";visitor age 99 clean 9 group 9 away 0 marks abcdef;"
            + "visitor age 0 clean 0 group 0 away 100;visitor age 3 clean 3 group 3 away 3 marks c");
        x.days(1);
        c.due("the last one was had", 2, () -> x.log(0, 1));
        x.trade(0, 1);
        int[][] due = {{0, 0, 0, 100, 0}, {99, 9, 9, 0, 63}, {3, 3, 3, 3, 4}};
        for (int i = 0; i < 15; i++) {
            int visitor = i / 5;
            int what = i % 5;
            c.due("visitor(" + visitor + ", " + what + ")", due[visitor][what], () -> x.visitor(visitor, what));
        }
        c.due("the log stays", 0, () -> x.log(1, 1));
        c.due("of the thing, too", 0, () -> x.led(0, true));
        c.illegal("both are one", () -> { x.trade(2, 2); return 0; });
        c.outOfBounds("both are none", () -> { x.trade(3, 3); return 0; });
        c.outOfBounds("the other is none", () -> { x.trade(2, 3); return 0; });
        c.outOfBounds("the first is none", () -> { x.trade(-1, 2); return 0; });
        x.trade(2, 0);
        c.due("the first and the last", 3, () -> x.visitor(0, 0));
    }

    private static void daysTold() {
        c.sentence("Promise 16: so many DAYS more (1 to 50): how many were had in these");
        BeltHall x = Check.hall(Halls.thing(0, 0, 3) + ";" + Halls.times(3, Halls.visitor(1)));
        c.illegal("0", () -> x.days(0));
        c.illegal("-1", () -> x.days(-1));
        c.illegal("51", () -> x.days(51));
        c.illegal("the least int", () -> x.days(Integer.MIN_VALUE));
        c.illegal("the greatest int", () -> x.days(Integer.MAX_VALUE));
        c.due("none went by", 0, () -> x.count(4));
        c.due("1", 3, () -> x.days(1));
        c.due("50", 150, () -> x.days(50));
        c.due("these alone are told, not all", 3, () -> x.days(1));
        c.due("all", 156, () -> x.count(9));
        c.due("days", 52, () -> x.count(4));
    }

    private static void seedTold() {
        c.sentence("Promise 39: SEED: what it was");
        int[] seeds = {0, -1, Integer.MIN_VALUE, Integer.MAX_VALUE, 1};
        BeltHall x = new BeltHall();
        int before = 1;
        for (int seed : seeds) {
            int due = before;
            c.due("seed(" + seed + ")", due, () -> x.seed(seed));
            before = seed;
        }
    }

    // ---- Terms, part 2: THE LOG

    private static void logRows() {
        c.sentence("THE LOG: the latest 60 that were had by a DAY");
        BeltHall x = Check.hall(Halls.thing(0, 0, 1) + ";" + Halls.visitor(1));
        c.due("no row", -1, () -> x.log(0, 0));
        x.trial(30);
        x.had();
        x.ahead(0, 30, 0);
        c.due("not by trials", 0, () -> x.count(10));
        x.days(1);
        c.due("one row", 1, () -> x.count(10));
        c.due("it", 0, () -> x.log(0, 0));
        c.due("no second one", -1, () -> x.log(1, 0));
        x.days(50);
        x.days(8);
        c.due("59", 59, () -> x.count(10));
        c.due("the earliest", 0, () -> x.log(58, 0));
        c.due("no 60th one", -1, () -> x.log(59, 0));
        x.days(1);
        c.due("60", 60, () -> x.count(10));
        c.due("the earliest", 0, () -> x.log(59, 0));
        c.due("none behind", -1, () -> x.log(60, 0));
        x.days(1);
        c.due("60 at most", 60, () -> x.count(10));
        c.due("the earliest is gone", 1, () -> x.log(59, 0));
        c.due("the latest", 60, () -> x.log(0, 0));
        c.due("none behind", -1, () -> x.log(60, 0));
        c.due("led by the log alone", 60, () -> x.led(0, false));
        c.due("had in all", 61, () -> x.count(9));
        x.days(50);
        x.days(10);
        c.due("twice round", 61, () -> x.log(59, 0));
        c.due("twice round", 120, () -> x.log(0, 0));
        BeltHall full = Halls.withThings(9);
        Check.feed(full, Halls.times(10, Halls.visitor(1)));
        full.hall();
        c.due("nine things have nine of ten", 9, () -> full.days(1));
        c.due("a row for each", 9, () -> full.count(10));
        c.due("the latest visitor", 8, () -> full.log(0, 1));
        c.due("the latest thing", 8, () -> full.log(0, 2));
        c.due("the earliest visitor", 0, () -> full.log(8, 1));
        c.due("had in all", 9, () -> full.count(9));
    }

    private static void logTold() {
        c.sentence("Promise 38: THE LOG so many ago (0 the latest) what 0 DAY, 1 the VISITOR, 2 the THING, 3 LIKING, "
            + "4 the STEP; NONE without");
        BeltHall x = Check.hall("speed 9;thing at 19 hold 0 room 1;thing at 9 hold 0 room 1;"
            + Halls.times(3, Halls.visitor(6)));
        x.days(1);
        x.clean(0, 9);
        x.move(1, 0);
        Check.feed(x, "speed 1");
        x.hall();
        x.days(1);
        int[][] rows = {{1, 1, 0, 6, 19}, {1, 0, 1, 9, 0}, {0, 1, 0, 6, 2}, {0, 0, 1, 6, 1}};
        for (int i = 0; i < 20; i++) {
            int ago = i / 5;
            int what = i % 5;
            c.due("log(" + ago + ", " + what + ")", rows[ago][what], () -> x.log(ago, what));
        }
        for (int i = 0; i < 5; i++) {
            int what = i;
            c.due("without", -1, () -> x.log(4, what));
            c.due("below 0", -1, () -> x.log(-1, what));
            c.due("far", -1, () -> x.log(Integer.MAX_VALUE, what));
            c.due("far below", -1, () -> x.log(Integer.MIN_VALUE, what));
        }
        c.noSuch("what 5", () -> x.log(0, 5));
        c.noSuch("what -1", () -> x.log(0, -1));
        c.noSuch("what 5 without a row", () -> x.log(4, 5));
        c.noSuch("what 5 of an empty one", () -> new BeltHall().log(0, 5));
    }

    // ---- promises 7 to 9

    private static void promises7to9() {
        c.sentence("Promise 7: NoSuchElementException: another what (0 to 7)");
        BeltHall x = Check.hall(Halls.SMALL);
        int[] thing = {0, 0, 1, 1, 0, 7, 1, 2};
        for (int i = 0; i < 8; i++) {
            int what = i;
            c.due("thing(0, " + i + ")", thing[i], () -> x.thing(0, what));
        }
        c.noSuch("8", () -> x.thing(0, 8));
        c.noSuch("-1", () -> x.thing(0, -1));
        c.noSuch("the greatest int", () -> x.thing(1, Integer.MAX_VALUE));
        c.noSuch("the least int", () -> x.thing(1, Integer.MIN_VALUE));
        c.outOfBounds("no such thing first", () -> x.thing(2, 8));
        c.outOfBounds("thing -1", () -> x.thing(-1, 0));
        c.sentence("Promise 8: 6, 7: NONE; NoSuchElementException: another what (0 to 7)");
        int[] visitor = {40, 7, 2, 50, 0, 3, 1, 6};
        int[] last = {60, 2, 1, 100, 32, 1, -1, -1};
        for (int i = 0; i < 8; i++) {
            int what = i;
            c.due("visitor(1, " + i + ")", visitor[i], () -> x.visitor(1, what));
            c.due("visitor(2, " + i + ")", last[i], () -> x.visitor(2, what));
        }
        c.noSuch("8", () -> x.visitor(0, 8));
        c.noSuch("-1", () -> x.visitor(0, -1));
        c.noSuch("the greatest int", () -> x.visitor(2, Integer.MAX_VALUE));
        c.noSuch("the least int", () -> x.visitor(2, Integer.MIN_VALUE));
        c.outOfBounds("no such visitor first", () -> x.visitor(3, 8));
        c.outOfBounds("visitor -1", () -> x.visitor(-1, 0));
        c.sentence("Promise 9: LIKING");
        c.due("in the cellar, too", 2, () -> x.show(1, false) ? x.liking(1, 2) : -9);
        c.outOfBounds("thing 2", () -> x.liking(2, 0));
        c.outOfBounds("visitor 3", () -> x.liking(0, 3));
        c.outOfBounds("thing -1", () -> x.liking(-1, 0));
        c.outOfBounds("visitor -1", () -> x.liking(0, -1));
        BeltHall most = Halls.withThings(9);
        for (int i = 0; i < 10; i++) {
            Check.feed(most, Halls.visitor(9 - i % 9));
            if (most.count(2) < 12) {
                most.hall();
            }
        }
        Check.feed(most, "like 8 3");
        most.law();
        c.due("the last of nine", 3, () -> most.liking(8, 2));
    }

    public static void main(String[] args) {
        shown();
        aboveNone();
        atLeastHold();
        stepCells();
        firstStep();
        greatest();
        room();
        byNone();
        draws();
        lonely();
        dayOnDay();
        tomorrow();
        aheadBy();
        idleActs();
        moves();
        nothingElse();
        numbersTold();
        marksTold();
        trades();
        daysTold();
        seedTold();
        logRows();
        logTold();
        promises7to9();
        c.finish();
    }
}
