/** Promises 7 to 16 and 39 to 43: what there is, acts, the seed, undoing, the image, counts. */
public final class ActsTest {
    private static final Check c = new Check();
    private static final String HALL = "thing at 5 hold 3 room 1;thing at 6 hold 0 room 2;"
        + "visitor age 30 clean 5 group 1 away 0 marks ab;visitor age 60 clean 0 group 1 away 50;"
        + "visitor age 9 clean 2 group 2 away 100 marks f";

    private static void likingIs(BeltHall x, String law, int thing, int visitor, int due) {
        Check.law(x, law);
        c.due("liking(" + thing + ", " + visitor + ") by '" + law + "'", due, () -> x.liking(thing, visitor));
    }

    private static void liking() {
        BeltHall x = Check.hall(HALL);
        c.due("without a law", 5, () -> x.liking(1, 0));
        likingIs(x, "", 1, 0, 0);
        likingIs(x, "like 1 7", 1, 0, 7);
        likingIs(x, "like 1 7", 0, 0, 0);
        likingIs(x, "like all 7;like 0 3;loathe all 2", 0, 0, 8);
        likingIs(x, "loathe all 99;like 0 3", 0, 0, 0);
        likingIs(x, "like all 9 if a and not f", 0, 0, 9);
        likingIs(x, "like all 9 if a and not f", 0, 2, 0);
        likingIs(x, "like all 9 if f or a and c", 0, 2, 9);
        likingIs(x, "like all 9 if f or a and c", 0, 0, 0);
        likingIs(x, "like all 9 if (f or a) and c", 0, 2, 0);
        likingIs(x, "like all 9 if not (f or a) and not c", 0, 1, 9);
        likingIs(x, "like all 9 if not not f", 0, 2, 9);
        likingIs(x, "like all 9 if age>29", 0, 0, 9);
        likingIs(x, "like all 9 if age>30", 0, 0, 0);
        likingIs(x, "like all 9 if age<30", 0, 0, 0);
        likingIs(x, "like all 9 if clean + group + 1 > cell + 1", 0, 0, 9);
        likingIs(x, "like all 9 if clean + group > cell", 1, 0, 0);
        likingIs(x, "like all 9 if 1+1+age<33 and lonely+day<1", 0, 0, 9);
        likingIs(x, "like all 4 if f;like all 5;like all 6 if a", 0, 0, 11);
        likingIs(x, "like all 4 if f;like all 5 if b;like all 6", 0, 0, 11);
        likingIs(x, "like all 4;like all 5", 0, 0, 9);
        likingIs(x, "like all 4 if f", 0, 0, 0);
        likingIs(x, "like all 4", 0, 0, 4);
        likingIs(x, "like all 4 if a or f and c", 0, 0, 4);
        likingIs(x, "like all 4 if f and c or a", 0, 0, 4);
        likingIs(x, "like all 4 if c or f or d or a and b", 0, 0, 4);
        likingIs(x, "like all 4 if not (a and (b or not (c or not f)))", 0, 0, 0);
        likingIs(x, "like 0 4 if 999+999>998+999 and 1<2", 0, 0, 4);
        likingIs(x, "like 0 4 if group>group or group<group", 0, 0, 0);
        // As many as can wait at once: an or, an and, and what is opened, six deep.
        likingIs(x, "like 0 9 if f or a and(f or a and(f or a and(f or a and(f or a and(f or a and(f or a and b))))))",
            0, 0, 9);
        likingIs(x, "like 0 9 if f or a and(f or a and(f or a and(f or a and(f or a and(f or a and(f or a and c))))))",
            0, 0, 0);
        StringBuilder chain = new StringBuilder("like 0 9 if a");
        StringBuilder sum = new StringBuilder("like 0 9 if 151<1");
        for (int i = 0; i < 50; i++) {
            chain.append(" and b");
            sum.append("+3");
        }
        likingIs(x, chain.toString(), 0, 0, 9);
        likingIs(x, chain + " and c", 0, 0, 0);
        likingIs(x, chain.toString().replace("and", "or").replace("a", "d"), 0, 0, 9);
        likingIs(x, sum.toString(), 0, 0, 0);
        likingIs(x, sum + "+1", 0, 0, 9);
        likingIs(x, "like all 5 if day>0;like all 3 if lonely>1", 0, 0, 0);
        x.days(1);
        c.due("by day", 5, () -> x.liking(0, 0));
        x.days(1);
        c.due("by lonely", 0, () -> x.thing(0, 4));
        c.due("by lonely", 5, () -> x.liking(0, 0));
        BeltHall y = Check.law(Check.hall(HALL), "like 0 9;like 1 3 if lonely>4;like 1 5 if lonely<5");
        y.hold(1, 99);
        y.days(4);
        c.due("not lonely enough", 5, () -> y.liking(1, 0));
        y.days(1);
        c.due("lonely", 5, () -> y.thing(1, 4));
        c.due("by lonely", 3, () -> y.liking(1, 0));
        c.outOfBounds("liking(2, 0)", () -> x.liking(2, 0));
        c.outOfBounds("liking(0, 3)", () -> x.liking(0, 3));
        c.outOfBounds("liking(-1, 0)", () -> x.liking(-1, 0));
        c.outOfBounds("liking(0, -1)", () -> x.liking(0, -1));
    }

    private static void rows() {
        BeltHall x = Check.hall(HALL);
        c.due("thing 0 rings", 1, () -> x.thing(0, 5));
        c.due("thing 1 rings", 5, () -> x.thing(1, 5));
        c.due("thing 0 has tomorrow", 1, () -> x.thing(0, 6));
        c.due("visitor 0 goes to the first step", 0, () -> x.visitor(0, 7) - 2);
        c.noSuch("thing(0, 8)", () -> x.thing(0, 8));
        c.noSuch("thing(0, -1)", () -> x.thing(0, -1));
        c.outOfBounds("thing(2, 8)", () -> x.thing(2, 8));
        c.noSuch("visitor(0, 8)", () -> x.visitor(0, 8));
        c.noSuch("visitor(0, -1)", () -> x.visitor(0, -1));
        c.outOfBounds("visitor(3, 8)", () -> x.visitor(3, 8));
        c.outOfBounds("visitor(-1, 0)", () -> x.visitor(-1, 0));
        c.due("rings for 0", 3, () -> x.visitor(0, 5));
        c.due("rings for 2", 2, () -> x.visitor(2, 5));
        c.due("nothing rings for 1", 0, () -> x.visitor(1, 5));
        c.due("nobody has 1", -1, () -> x.visitor(1, 6));
        c.due("in no step", -1, () -> x.visitor(1, 7));
        c.due("the step of cell 6 at speed 2", 3, () -> x.visitor(2, 7));
    }

    private static void envy() {
        // Thing 0 stands first and takes the first; thing 1 likes visitor 1 least, so it envies for him and 2.
        BeltHall x = Check.hall("speed 1;thing at 0 hold 0 room 1;thing at 1 hold 0 room 1;thing at 2 hold 0 room 3;"
            + "visitor age 1 clean 4 group 0 away 0;visitor age 2 clean 3 group 0 away 0;"
            + "visitor age 3 clean 9 group 0 away 0;visitor age 3 clean 3 group 0 away 0");
        c.due("0 has", 1, () -> x.thing(0, 6));
        c.due("2 has", 12, () -> x.thing(2, 6));
        c.due("envy of 0", 4, () -> x.thing(0, 7));
        c.due("envy of 1", 5, () -> x.thing(1, 7));
        c.due("envy of 2: more than its best alone", 0, () -> x.thing(2, 7));
        x.hold(0, 10);
        c.due("one that does not ring does not envy", 0, () -> x.thing(0, 7));
        x.hold(0, 0);
        x.hold(1, 9);
        c.due("with nobody: of all for whom it rings", 0, () -> x.thing(1, 7));
        c.due("it has him itself", 4, () -> x.thing(1, 6));
        x.move(1, 19);
        c.due("nobody there", 0, () -> x.thing(1, 6));
        c.due("so it envies", 4, () -> x.thing(1, 7));
        // Nothing has visitors 1 and 2, for whom thing 0 would ring, too; thing 1 likes by 1 and has nobody.
        BeltHall y = Check.law(Check.hall("speed 1;thing at 0 hold 0 room 1;thing at 1 hold 0 room 1;cellar 1;"
            + "visitor age 1 clean 4 group 0 away 0;visitor age 2 clean 5 group 0 away 0;"
            + "visitor age 3 clean 9 group 0 away 0"), "like 0 2 if age>0;like 0 3 if age>1;like 1 1");
        c.due("no envy for whom nothing has", 0, () -> y.thing(0, 7));
        y.move(1, 0);
        y.show(1, true);
        c.due("thing 1 is first", 1, () -> y.thing(1, 6));
        y.hold(0, 5);
        c.due("thing 0 does not ring for 0", 0, () -> y.thing(0, 7));
        y.move(0, 0);
        y.hold(0, 0);
        c.due("thing 1 has the second", 2, () -> y.thing(1, 6));
        c.due("and wants no other more", 0, () -> y.thing(1, 7));
        BeltHall z = Check.hall("thing at 0 hold 0 room 3;thing at 9 hold 0 room 1;"
            + "visitor age 1 clean 1 group 0 away 0;visitor age 1 clean 0 group 0 away 0");
        c.due("of all, if only by a liking of 1", 1, () -> z.thing(1, 7));
    }

    private static void acts() {
        BeltHall x = Check.hall(HALL);
        c.due("move to a free cell", -1, () -> x.move(0, 19));
        c.due("moved", 19, () -> x.thing(0, 0));
        c.due("move to the same", -1, () -> x.move(0, 19));
        c.due("move to another's", 1, () -> x.move(0, 6));
        c.due("the other comes where it was", 19, () -> x.thing(1, 0));
        c.outOfBounds("move(2, 0)", () -> x.move(2, 0));
        c.outOfBounds("move(0, 20)", () -> x.move(0, 20));
        c.outOfBounds("move(0, -1)", () -> x.move(0, -1));
        c.due("hold", 3, () -> x.hold(0, 99));
        c.due("hold", 99, () -> x.hold(0, 0));
        c.illegal("hold(0, 100)", () -> x.hold(0, 100));
        c.illegal("hold(0, -1)", () -> x.hold(0, -1));
        c.outOfBounds("hold(2, 100)", () -> x.hold(2, 100));
        c.due("told hold", 0, () -> x.thing(0, 1));
        c.due("show a shown one", false, () -> x.show(1, true));
        c.due("to the cellar", true, () -> x.show(1, false));
        c.due("again", false, () -> x.show(1, false));
        c.due("shown", 0, () -> x.thing(1, 3));
        c.outOfBounds("show(2, true)", () -> x.show(2, true));
        c.due("clean", 5, () -> x.clean(0, 9));
        c.due("clean", 9, () -> x.clean(0, 0));
        c.illegal("clean(0, 10)", () -> x.clean(0, 10));
        c.illegal("clean(0, -1)", () -> x.clean(0, -1));
        c.outOfBounds("clean(3, 10)", () -> x.clean(3, 10));
        c.due("mark on that is on", false, () -> x.mark(0, 0, true));
        c.due("mark off", true, () -> x.mark(0, 0, false));
        c.due("mark on", true, () -> x.mark(0, 5, true));
        c.due("marks", 34, () -> x.visitor(0, 4));
        c.outOfBounds("mark(0, 6)", () -> x.mark(0, 6, true));
        c.outOfBounds("mark(0, -1)", () -> x.mark(0, -1, true));
        c.outOfBounds("mark(3, 0)", () -> x.mark(3, 0, true));
        x.trade(0, 2);
        int[] nine = {9, 2, 2, 100, 32};
        int[] thirty = {30, 0, 1, 0, 34};
        for (int i = 0; i < 5; i++) {
            int what = i;
            c.due("traded 0, " + i, nine[i], () -> x.visitor(0, what));
            c.due("traded 2, " + i, thirty[i], () -> x.visitor(2, what));
        }
        c.illegal("trade(1, 1)", () -> { x.trade(1, 1); return 0; });
        c.outOfBounds("trade(3, 3)", () -> { x.trade(3, 3); return 0; });
        c.outOfBounds("trade(0, 3)", () -> { x.trade(0, 3); return 0; });
        c.due("acts, none of them one that threw", 12, () -> x.count(11));
    }

    private static void days() {
        BeltHall x = Check.hall(HALL);
        c.illegal("days(0)", () -> x.days(0));
        c.illegal("days(51)", () -> x.days(51));
        c.illegal("days(-1)", () -> x.days(-1));
        // Visitor 2 is always away, nothing likes visitor 1, thing 1 is behind thing 0 for visitor 0.
        c.due("days(2)", 2, () -> x.days(2));
        c.due("the day", 2, () -> x.count(4));
        c.due("had in all", 2, () -> x.count(9));
        c.due("thing 1 is in its way at step 3, thing 0 at step 2", 2, () -> x.thing(1, 4));
        c.due("thing 0 had him", 0, () -> x.thing(0, 4));
        // Three draws a day, also for those who never stay away.
        int seed = 1;
        for (int i = 0; i < 6; i++) {
            seed = seed * 1103515245 + 12345;
        }
        int drawn = seed;
        c.due("the seed goes on", drawn, () -> x.seed(7));
        c.due("the seed that was told", 7, () -> x.seed(-8));
        c.due("below 0, too", -8, () -> x.seed(1));
        x.show(0, false);
        c.due("days(50)", 50, () -> x.days(50));
        c.due("the cellar is not lonely", 0, () -> x.thing(0, 4));
        x.hold(1, 99);
        x.clean(0, 0);
        x.days(50);
        x.days(50);
        c.due("lonely 99 at most", 99, () -> x.thing(1, 4));
        x.clean(0, 1);
        c.due("hold 99 less lonely 99", 1, () -> x.days(1));
    }

    private static void draws() {
        // DRAW of seed 1 is 16838, of the next 5758: modulo 100 38 and 58.
        BeltHall x = Check.hall("thing at 0 hold 0 room 3;visitor age 1 clean 1 group 0 away 38;"
            + "visitor age 1 clean 1 group 0 away 58");
        c.due("neither is below", 2, () -> x.days(1));
        BeltHall y = Check.hall("thing at 0 hold 0 room 3;visitor age 1 clean 1 group 0 away 39;"
            + "visitor age 1 clean 1 group 0 away 59");
        c.due("both are", 0, () -> y.days(1));
        c.due("tomorrow nobody stays away", 3, y::had);
    }

    private static void undoing() {
        BeltHall x = Check.hall(HALL);
        x.seed(5);
        x.days(3);
        x.seed(9);
        c.due("undo", true, x::undo);
        c.due("the seed as ahead of the act", 5, () -> x.seed(5));
        c.due("the day", 0, () -> x.count(4));
        c.due("had in all", 0, () -> x.count(9));
        c.due("the log", -1, () -> x.log(0, 0));
        c.due("nothing more", false, x::undo);
        for (int i = 0; i < 14; i++) {
            x.hold(0, 20 + i);
        }
        c.due("12 are remembered", 12, () -> x.count(11));
        for (int i = 0; i < 12; i++) {
            c.due("undo " + i, true, x::undo);
        }
        c.due("not the first two", 21, () -> x.thing(0, 1));
        c.due("undo 13", false, x::undo);
        x.hold(0, 50);
        x.hold(0, 51);
        x.undo();
        x.hold(0, 52);
        c.due("undone ones are gone", 2, () -> x.count(11));
        x.undo();
        c.due("50", 50, () -> x.thing(0, 1));
        Check.feed(x, "speed 0");
        c.due("a wrong text forgets nothing", 1, () -> Check.outcome(x::hall) == null ? 0 : x.count(11));
        Check.feed(x, "like");
        c.due("nor does a wrong law", 1, () -> Check.outcome(x::law) == null ? 0 : x.count(11));
        c.due("the fault stays behind undoing", 4, () -> x.undo() ? x.fault() : 0);
        x.hold(0, 50);
        Check.law(x, "");
        c.due("a law forgets", false, x::undo);
        x.hold(0, 51);
        Check.feed(x, "");
        x.hall();
        c.due("a text forgets", 0, () -> x.count(11));
    }

    private static void image() {
        BeltHall x = Check.hall(HALL);
        Check.law(x, "like 1 9 if f;like all 4 if a or not a;loathe 1 2 if c");
        x.days(2);
        x.image();
        int seed = x.seed(3);
        Check.law(x, "like all 1;like 8 5 if c and age>3+3;like all 2");
        Check.feed(x, "speed 9;cellar 0;visitor age 1 clean 1 group 1 away 1");
        x.hall();
        x.days(5);
        Check.feed(x, "speed 0");
        Check.outcome(x::hall);
        x.feed(1, 2, 3, 4, 5);
        c.due("back", true, x::back);
        c.due("the tape stays", true, () -> x.end(20));
        c.due("the fault stays", 6, x::fault);
        c.due("the seed", seed, () -> x.seed(seed));
        int[] counts = {2, 3, 1, 3, 2, 2, 3, 0, 3, 4, 4, 0};
        for (int i = 0; i < counts.length; i++) {
            int what = i;
            c.due("count(" + i + ") of the image", counts[i], () -> x.count(what));
        }
        c.due("the law of the image", 4, () -> x.liking(0, 1));
        c.due("of a thing", 13, () -> x.liking(1, 2));
        x.mark(2, 2, true);
        c.due("with its conditions", 11, () -> x.liking(1, 2));
        x.back();
        c.due("its log", 1, () -> x.log(0, 0));
        c.due("none are remembered", false, x::undo);
        x.hold(0, 77);
        c.due("the image stays", true, x::back);
        c.due("as it was", 3, () -> x.thing(0, 1));
        x.hold(0, 78);
        x.image();
        x.hold(0, 79);
        x.undo();
        x.undo();
        c.due("undone beyond the image", 3, () -> x.thing(0, 1));
        x.back();
        c.due("one image alone", 78, () -> x.thing(0, 1));
    }

    private static void counts() {
        BeltHall x = Check.hall(HALL, "speed 3");
        Check.law(x, "like 1 1");
        x.days(1);
        int[] counts = {2, 3, 2, 1, 1, 3, 3, 1, 3, 2, 2, 1};
        for (int i = 0; i < counts.length; i++) {
            int what = i;
            c.due("count(" + i + ")", counts[i], () -> x.count(what));
        }
        c.due("count(12)", -1, () -> x.count(12));
        c.due("count(-1)", -1, () -> x.count(-1));
    }

    public static void main(String[] args) {
        liking();
        rows();
        envy();
        acts();
        days();
        draws();
        undoing();
        image();
        counts();
        c.finish();
    }
}
