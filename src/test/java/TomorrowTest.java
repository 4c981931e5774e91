/** Promises 17 to 27: TOMORROW, and what could be. */
public final class TomorrowTest {
    private static final Check c = new Check();

    private static void empty() {
        BeltHall x = new BeltHall();
        c.due("had", 0, x::had);
        c.due("first", -1, x::first);
        c.due("most", 0, x::most);
        c.due("dearest(-1)", 0, () -> x.dearest(-1));
        c.outOfBounds("dearest(0)", () -> x.dearest(0));
        c.due("cannot", 0, x::cannot);
        c.due("change(false)", -1, () -> x.change(false));
        c.due("change(true)", 0, () -> x.change(true));
        c.due("fewest", 0, x::fewest);
        c.due("alone", 0, x::alone);
        BeltHall y = Check.hall("thing at 3 hold 0 room 1;thing at 2 hold 0 room 1");
        c.due("first without visitors, by cells", 1, y::first);
        c.due("alone without visitors", 3, y::alone);
        y.show(1, false);
        c.due("first that is shown", 0, y::first);
    }

    private static void led() {
        // Speed 5: cells 0 to 4 in step 0, 5 to 9 in step 1. Thing 0 likes by 2, thing 1 by 5, thing 2 by 5, all by 1.
        BeltHall x = Check.law(Check.hall("speed 5;thing at 4 hold 0 room 1;thing at 9 hold 0 room 1;"
            + "thing at 5 hold 0 room 1", "visitor age 1 clean 0 group 3 away 100;visitor age 2 clean 0 group 3 away 0;"
            + "visitor age 3 clean 0 group 4 away 0;visitor age 4 clean 0 group 9 away 0"),
            "like 0 2;like 1 5;like 2 5;loathe 2 1 if age>2");
        c.due("the first step is first, even if it likes less", 0, () -> x.visitor(0, 6));
        c.due("of equal likings the least", 1, () -> x.visitor(1, 6));
        c.due("its step", 1, () -> x.visitor(1, 7));
        c.due("what has room", 2, () -> x.visitor(2, 6));
        c.due("nothing has room", -1, () -> x.visitor(3, 6));
        c.due("had", 7, x::had);
        c.due("group shared", 3, () -> x.group(3, false));
        c.due("group 4 shared", 4, () -> x.group(4, false));
        c.due("group left", 8, () -> x.group(9, true));
        c.due("group 3 left", 0, () -> x.group(3, true));
        c.due("no such visitors", 0, () -> x.group(0, false));
        c.outOfBounds("group(10)", () -> x.group(10, true));
        c.outOfBounds("group(-1)", () -> x.group(-1, false));
        x.hold(2, 5);
        c.due("hold keeps back", 3, x::had);
        c.due("first alone", 2, x::first);
        x.move(2, 6);
        x.hold(0, 3);
        c.due("first alone by cells", 0, x::first);
        c.due("nothing of this stays", 0, () -> x.count(4) + x.count(10));
        x.hold(2, 4);
        c.due("the greatest liking in the step", 1, () -> x.visitor(0, 6));
        c.due("then the other", 2, () -> x.visitor(1, 6));
    }

    private static void could() {
        // Thing 0 rings for a, thing 1 for b, each has room for one. Visitors: a, a, ab, b, none.
        String visitors = "visitor age 1 clean 0 group 0 away 0 marks a;visitor age 1 clean 0 group 0 away 0 marks a;"
            + "visitor age 1 clean 0 group 0 away 0 marks ab;visitor age 1 clean 0 group 0 away 0 marks b;"
            + "visitor age 1 clean 0 group 0 away 0";
        BeltHall x = Check.law(Check.hall("thing at 0 hold 0 room 1;thing at 1 hold 0 room 1", visitors),
            "like 0 5 if a;like 1 3 if b");
        c.due("most: the least of the greatest", 5, x::most);
        c.due("cannot: one alone", 16, x::cannot);
        c.due("dearest", 8, () -> x.dearest(-1));
        int[] first = {-1, -1, 0, 1, -1};
        for (int i = 0; i < 5; i++) {
            int visitor = i;
            c.due("dearest(" + i + ") of the first way", first[i], () -> x.dearest(visitor));
        }
        c.outOfBounds("dearest(5)", () -> x.dearest(5));
        c.outOfBounds("dearest(-2)", () -> x.dearest(-2));
        c.due("fewest: one for both", 4, x::fewest);
        c.due("alone", 0, x::alone);
        c.due("rivals", 4, () -> x.rivals(0, 1));
        c.due("rivals", 4, () -> x.rivals(1, 0));
        c.illegal("rivals(1, 1)", () -> x.rivals(1, 1));
        c.outOfBounds("rivals(2, 2)", () -> x.rivals(2, 2));
        c.outOfBounds("rivals(0, 2)", () -> x.rivals(0, 2));
        c.outOfBounds("rivals(-1, 0)", () -> x.rivals(-1, 0));
        x.mark(4, 1, true);
        c.due("cannot: two for one room", 3, x::cannot);
        x.mark(2, 0, false);
        x.mark(1, 0, false);
        c.due("cannot: none alone but 1", 2, x::cannot);
        c.due("fewest: two", 5, x::fewest);
        x.show(0, false);
        c.due("alone in the cellar", 1, x::alone);
        c.due("fewest for those that can", 4, x::fewest);
        c.due("most", 4, x::most);
        x.show(1, false);
        c.due("nothing can", 0, x::fewest);
        c.due("nothing at all", 0, () -> x.dearest(-1));
        c.due("cannot: the first", 1, x::cannot);
    }

    private static void allCan() {
        BeltHall x = Check.hall("thing at 0 hold 9 room 3;thing at 1 hold 0 room 1;"
            + "visitor age 1 clean 9 group 0 away 0;visitor age 1 clean 9 group 0 away 0;"
            + "visitor age 1 clean 9 group 0 away 0;visitor age 1 clean 1 group 0 away 0");
        c.due("all can", 0, x::cannot);
        c.due("most", 15, x::most);
        c.due("dearest", 28, () -> x.dearest(-1));
        c.due("the least thing", 0, () -> x.dearest(0));
        c.due("what must be", 1, () -> x.dearest(3));
        x.trade(0, 3);
        c.due("an exchange", 1, () -> x.dearest(0));
        c.due("an exchange", 0, () -> x.dearest(3));
        x.clean(0, 9);
        c.due("5 of equal worth would do: all four rooms", 36, () -> x.dearest(-1));
        c.due("the first way", 0, () -> x.dearest(0));
        c.due("the first way", 1, () -> x.dearest(3));
    }

    private static void fresh() {
        String hall = "thing at 0 hold 0 room 1;thing at 1 hold 0 room 1;visitor age 1 clean 3 group 2 away 0";
        c.due("rivals at once", 1, () -> Check.hall(hall).rivals(0, 1));
        c.due("group at once", 1, () -> Check.hall(hall).group(2, false));
        c.due("alone at once", 0, () -> Check.hall(hall).alone());
        c.due("first at once", 1, () -> Check.hall(hall).first());
        c.due("most at once", 1, () -> Check.hall(hall).most());
        c.due("cannot at once", 0, () -> Check.hall(hall).cannot());
        c.due("fewest at once", 1, () -> Check.hall(hall).fewest());
        c.due("dearest at once", 3, () -> Check.hall(hall).dearest(-1));
        c.due("right of visitor 0", 3, () -> Check.hall(hall).right(0, true));
        c.due("who of the hall", 0, () -> Check.hall(hall).visitor(0, 6));
    }

    /** Ways that are dearest only by exchanges of several. */
    private static void exchanges() {
        String marks = "abcdef";
        StringBuilder hall = new StringBuilder("thing at 0 hold 0 room 1;thing at 1 hold 0 room 1;"
            + "thing at 2 hold 0 room 1;thing at 3 hold 0 room 1");
        for (int i = 0; i < 4; i++) {
            hall.append(";visitor age 1 clean 0 group 0 away 0 marks ").append(marks.charAt(i));
        }
        BeltHall x = Check.law(Check.hall(hall.toString()), "like 0 9 if a or b;like 1 8 if b or c;like 2 7 if c or d;"
            + "like 3 1 if d;like 0 1 if a");
        int[] chain = {0, 1, 2, 3};
        for (int i = 0; i < 4; i++) {
            int visitor = i;
            c.due("the chain " + i, chain[i], () -> x.dearest(visitor));
        }
        c.due("its worth", 26, () -> x.dearest(-1));
        Check.law(x, "like 0 9 if a;like 1 9 if a;like 0 5 if b;like 1 8 if b or c;like 2 1 if c");
        c.due("what is given up for more", 18, () -> x.dearest(-1));
        int[] way = {0, 1, 2, -1};
        for (int i = 0; i < 4; i++) {
            int visitor = i;
            c.due("the way " + i, way[i], () -> x.dearest(visitor));
        }
        // One is left out, since the exchange would cost more than he brings.
        Check.law(x, "like 0 99 if b;like 0 1 if a;like 1 1 if b");
        c.due("left out", -1, () -> x.dearest(0));
        c.due("dearest", 99, () -> x.dearest(-1));
        c.due("though both could be had", 3, x::most);
    }

    private static void change() {
        // Thing 0 takes both that it can; thing 1 rings for visitor 0 alone, and comes too late.
        BeltHall x = Check.law(Check.hall("speed 1;thing at 0 hold 0 room 1;thing at 1 hold 0 room 1;"
            + "thing at 2 hold 0 room 1;cellar 2", "visitor age 1 clean 0 group 0 away 0 marks a;"
            + "visitor age 1 clean 0 group 0 away 0"), "like 0 5;like 1 5 if a");
        c.due("had now", 1, x::had);
        c.due("the two", 1, () -> x.change(false));
        c.due("how many then", 2, () -> x.change(true));
        c.due("nothing stays", 0, () -> x.thing(0, 0));
        x.move(0, 1);
        c.due("all are had", -1, () -> x.change(false));
        c.due("as tomorrow", 2, () -> x.change(true));
        // Thing 2, in the cellar, has the only cell from which thing 0 likes anybody.
        Check.law(x, "like 0 5 if cell>1");
        c.due("a change with the cellar", 2, () -> x.change(false));
        c.due("lets one be had", 1, () -> x.change(true));
    }

    private static void right() {
        BeltHall x = Check.hall("speed 1;thing at 0 hold 0 room 1;thing at 1 hold 0 room 2;"
            + "visitor age 1 clean 2 group 0 away 0;visitor age 1 clean 7 group 0 away 0;"
            + "visitor age 1 clean 5 group 0 away 0;visitor age 1 clean 7 group 0 away 0");
        c.due("the hold for the best of all", 3, () -> x.right(0, false));
        c.due("its liking", 7, () -> x.right(0, true));
        c.due("of thing 1: 5 and 7, or 7 and 7", 14, () -> x.right(1, true));
        c.due("the least", 6, () -> x.right(1, false));
        c.due("told hold stays", 0, () -> x.thing(0, 1));
        x.hold(1, 99);
        x.days(3);
        c.due("lonely is taken off", 3, () -> x.thing(1, 4));
        c.due("so it must hold more", 9, () -> x.right(1, false));
        c.due("for the same", 14, () -> x.right(1, true));
        x.show(0, false);
        c.due("from thing 0 nothing", 0, () -> x.right(0, true));
        c.due("by hold 0", 0, () -> x.right(0, false));
        c.due("thing 1 waits for both 7", 14, () -> x.right(1, true));
        c.due("with lonely 3 by hold 9", 9, () -> x.right(1, false));
        c.outOfBounds("right(2)", () -> x.right(2, true));
        c.outOfBounds("right(-1)", () -> x.right(-1, false));
    }

    public static void main(String[] args) {
        empty();
        led();
        could();
        allCan();
        fresh();
        exchanges();
        change();
        right();
        c.finish();
    }
}
