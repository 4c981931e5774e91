/**
 * The boundary cases of what could be, of what is found out and of days that do not stay: Terms, part 3, and promises
 * 17 to 37, a test for each sentence that names one.
 */
public final class CouldEdgesTest {
    private static final Check c = new Check();

    /** Speed 1 and THINGS on CELLS 0, 1, .. with room as told; VISITORS with MARKS as told; what likes whom by law. */
    private static BeltHall hall(String rooms, String marks, String law) {
        StringBuilder things = new StringBuilder("speed 1");
        for (int i = 0; i < rooms.length(); i++) {
            things.append(";thing at ").append(i).append(" hold 0 room ").append(rooms.charAt(i));
        }
        BeltHall x = Check.hall(things.toString());
        if (!marks.isEmpty()) {
            StringBuilder visitors = new StringBuilder();
            String[] words = marks.split(",");
            for (int i = 0; i < words.length; i++) {
                visitors.append(i == 0 ? "" : i == 5 ? "!" : ";").append(Halls.marked(words[i].trim()));
            }
            for (String text : visitors.toString().split("!")) {
                Check.feed(x, text);
                x.hall();
            }
        }
        return Check.law(x, law);
    }

    private static void dearestIs(BeltHall x, int sum, int... way) {
        c.due("dearest", sum, () -> x.dearest(-1));
        for (int i = 0; i < way.length; i++) {
            int visitor = i;
            c.due("dearest(" + i + ")", way[i], () -> x.dearest(visitor));
        }
        c.outOfBounds("one visitor more", () -> x.dearest(way.length));
        c.outOfBounds("below NONE", () -> x.dearest(-2));
    }

    // ---- TOMORROW, and what could be

    private static void hadAndFirst() {
        c.sentence("Promise 17: VISITORS who are had TOMORROW, as bits");
        BeltHall x = hall("123", "a,a,a,a,a,a,a,a,a,a", "like all 1 if a");
        c.due("six rooms for ten", 63, x::had);
        x.mark(9, 0, false);
        x.mark(0, 0, false);
        c.due("the first is not", 126, x::had);
        BeltHall all = hall("3331", "a,a,a,a,a,a,a,a,a,a", "like all 1");
        c.due("all ten", 1023, all::had);
        c.sentence("FIRST ALONE: the first THING (by CELLS) that is SHOWN and has nobody TOMORROW; none");
        BeltHall y = hall("1111", "a", "like 3 1");
        c.due("the first cell", 0, y::first);
        y.move(0, 19);
        c.due("the second cell", 1, y::first);
        y.show(1, false);
        c.due("one that is shown", 2, y::first);
        y.show(2, false);
        c.due("one that has nobody, on the last cell", 0, y::first);
        y.show(0, false);
        c.due("none: the only one has somebody", -1, y::first);
        y.show(3, false);
        c.due("none: all are in the cellar", -1, y::first);
        c.due("none: there is none", -1, () -> new BeltHall().first());
    }

    private static void most() {
        c.sentence("MOST: each THING by ROOM of them: of several such sets the least as bits");
        c.due("none ring", 0, hall("3", "a,b", "like 0 1 if c")::most);
        c.due("the least of two", 2, hall("1", "b,a,a", "like 0 1 if a")::most);
        c.due("room 2", 3, hall("2", "a,a,a", "like 0 1")::most);
        c.due("room 3", 7, hall("3", "a,a,a,a", "like 0 1")::most);
        c.due("one makes room for another", 3, hall("11", "a,b", "like 0 1;like 1 1 if a")::most);
        c.due("by three exchanges", 15, hall("1111", "a,b,c,d",
            "like 0 1 if a or d;like 1 1 if a or b;like 2 1 if b or c;like 3 1 if c")::most);
        c.due("nine of ten", 511, hall("111111111", "a,a,a,a,a,a,a,a,a,a", "like all 1")::most);
        c.due("all ten", 1023, hall("333111111", "a,a,a,a,a,a,a,a,a,a", "like all 1")::most);
        c.due("the last alone", 512, hall("333", "b,b,b,b,b,b,b,b,b,a", "like 2 1 if a")::most);
        c.due("without visitors", 0, Halls.withThings(9)::most);
        c.due("without things", 0, Halls.withVisitors(10)::most);
        BeltHall x = hall("1", "a,a", "like 0 1");
        x.show(0, false);
        c.due("in the cellar", 0, x::most);
    }

    private static void dearest() {
        c.sentence("DEAREST: as many or as few as one likes: the greatest sum of LIKING");
        dearestIs(Check.hall(""), 0);
        dearestIs(hall("3", "a", "like 0 1 if b"), 0, -1);
        dearestIs(hall("1", "a,b", "like 0 9 if b;like 0 8 if a"), 9, -1, 0);
        dearestIs(hall("11", "a,b", "like 0 9;like 1 2 if a"), 11, 1, 0);
        dearestIs(hall("11", "a,b", "like 0 9 if a;like 1 2 if a;like 0 6 if b"), 9, 0, -1);
        dearestIs(hall("3", "a,a,a,a", "like 0 5"), 15, -1, 0, 0, 0);
        dearestIs(hall("13", "b,a,a,a,a,a,a,a,a,a", "like 1 5 if b;like 0 3 if a"), 8, 1, -1, -1, -1, -1, -1, -1, -1,
            -1, 0);
        BeltHall x = Check.law(hall("3331", "a,a,a,a,a,a,a,a,a,a", ""), Halls.times(12, "like all 99"));
        dearestIs(x, 11880, 0, 0, 0, 1, 1, 1, 2, 2, 2, 3);
        String there = "like 0 5 if a or d;like 1 4 if a;like 1 5 if b;like 2 4 if b;like 2 5 if c;like 3 4 if c";
        dearestIs(hall("1111", "a,b,c,d", there), 17, 1, 2, 3, 0);
        dearestIs(hall("1111", "d,c,b,a", there), 17, 0, 3, 2, 1);
        dearestIs(hall("1111", "c,a,d,b", there), 17, 3, 1, 0, 2);
        dearestIs(hall("1111", "d,a,b,c,d", there), 17, -1, 1, 2, 3, 0);
        String back = "like 3 5 if a or d;like 2 4 if a;like 2 5 if b;like 1 4 if b;like 1 5 if c;like 0 4 if c";
        dearestIs(hall("1111", "a,b,c,d", back), 17, 2, 1, 0, 3);
        dearestIs(hall("1111", "d,c,b,a", back), 17, 3, 0, 1, 2);
        dearestIs(hall("1111", "b,d,a,c", back), 17, 1, 3, 2, 0);
        c.sentence("in the first such way (VISITOR 0 by none, if that can be, else by the least THING that can be, "
            + "then 1, ..)");
        dearestIs(hall("1", "a,a", "like 0 4"), 4, -1, 0);
        dearestIs(hall("11", "a,a", "like all 4"), 8, 0, 1);
        dearestIs(hall("11", "a,a,a", "like all 4"), 8, -1, 0, 1);
        dearestIs(hall("111", "a,a", "like 1 4;like 2 4;like 0 3"), 8, 1, 2);
        dearestIs(hall("11", "a,b", "like 0 4 if b;like all 4 if a"), 8, 1, 0);
        dearestIs(hall("11", "a,b,c", "like 0 4 if a or b;like 1 4 if b or c"), 8, -1, 0, 1);
        dearestIs(hall("111111111", "a,a,a,a,a,a,a,a,a,a", "like all 1"), 9, -1, 0, 1, 2, 3, 4, 5, 6, 7, 8);
        dearestIs(hall("111111111", "a", "like 8 1"), 1, 8);
    }

    private static void cannot() {
        c.sentence("CANNOT: the fewest VISITORS who could not all be had so: of several the least as bits; 0, if all "
            + "can");
        c.due("all can", 0, hall("3", "a,a,a", "like 0 1")::cannot);
        c.due("nobody", 0, Halls.withThings(1)::cannot);
        c.due("one alone", 4, hall("3", "a,a,b,b", "like 0 1 if a")::cannot);
        c.due("two for one room", 6, hall("13", "b,a,a", "like 0 1 if a;like 1 1 if b")::cannot);
        c.due("of two pairs the least", 6, hall("11", "a,b,b,a", "like 0 1 if b;like 1 1 if a")::cannot);
        c.due("three for two rooms", 7, hall("2", "a,a,a,a", "like 0 1")::cannot);
        c.due("four for three rooms", 30, hall("33", "b,a,a,a,a", "like 0 1 if a;like 1 1 if b")::cannot);
        c.due("a pair rather than the three that are less", 24, hall("211", "a,a,a,b,b",
            "like 0 1 if a;like 1 1 if b")::cannot);
        c.due("ten for nine", 1023, hall("111111111", "a,a,a,a,a,a,a,a,a,a", "like all 1")::cannot);
        c.due("the last alone", 512, hall("333", "a,a,a,a,a,a,a,a,a,b", "like all 1 if a")::cannot);
        c.due("without things", 1, Halls.withVisitors(10)::cannot);
    }

    private static void change() {
        c.sentence("CHANGE: 10 times the first and the second (of several the least; "
            + "none, if no change lets more be had than now)");
        BeltHall none = new BeltHall();
        c.due("without things", -1, () -> none.change(false));
        c.due("none then", 0, () -> none.change(true));
        BeltHall single = hall("1", "a,a", "like 0 1");
        c.due("one thing", -1, () -> single.change(false));
        c.due("as tomorrow", 1, () -> single.change(true));
        BeltHall same = hall("11", "a,b", "like all 1");
        c.due("as many as now are not more", -1, () -> same.change(false));
        c.due("as tomorrow", 2, () -> same.change(true));
        BeltHall apart = Check.law(Check.hall("thing at 5 hold 0 room 1;thing at 9 hold 0 room 1;" + Halls.visitor(1)),
            "like all 1 if cell<5 or cell>9");
        c.due("each comes to the other one's cell alone", -1, () -> apart.change(false));
        c.due("nobody then", 0, () -> apart.change(true));
        BeltHall two = hall("11", "a,b", "like 0 1;like 1 1 if a");
        c.due("0 and 1", 1, () -> two.change(false));
        c.due("both then", 2, () -> two.change(true));
        BeltHall three = hall("111", "a,b", "like 0 1;like 1 1 if a");
        c.due("01 and 02 both: the least", 1, () -> three.change(false));
        BeltHall last = hall("111111111", "a,b", "like 7 1;like 8 1 if a and cell>6");
        c.due("7 and 8", 78, () -> last.change(false));
        c.due("nothing stays", 7, () -> last.thing(7, 0));
        BeltHall cellar = hall("11", "a", "like 0 1 if cell>0");
        cellar.show(1, false);
        c.due("one in the cellar", 1, () -> cellar.change(false));
        c.due("one then", 1, () -> cellar.change(true));
        BeltHall better = hall("1113", "a,b,c", "like 0 1;like 1 1 if a;like 2 1 if a;"
            + "like 3 1 if a and cell<1;like 3 1 "
            + "if b and cell<1");
        c.due("the most, not the first that is more", 3, () -> better.change(false));
        c.due("three then", 3, () -> better.change(true));
    }

    private static void right() {
        c.sentence("RIGHT HOLD: the HOLD (0 to 99) by which LIKING is the greatest (of several the least)");
        BeltHall x = hall("1", "a,b", "like 0 98;like 0 1 if b");
        c.due("99 keeps back for 99", 99, () -> x.right(0, false));
        c.due("99", 99, () -> x.right(0, true));
        BeltHall y = hall("1", "a,b", "like 0 99;like 0 1 if b");
        c.due("100 is no hold", 0, () -> y.right(0, false));
        c.due("99 for want of 100", 99, () -> y.right(0, true));
        BeltHall z = hall("1", "a,b", "like 0 7;like 0 1 if b");
        c.due("the least of 8 to 8", 8, () -> z.right(0, false));
        z.hold(0, 99);
        c.due("whatever it is", 8, () -> z.right(0, false));
        c.due("its own stays", 99, () -> z.thing(0, 1));
        BeltHall w = hall("2", "a,b", "like 0 7;like 0 1 if b");
        w.hold(0, 50);
        c.due("both by 0", 0, () -> w.right(0, false));
        c.due("together", 15, () -> w.right(0, true));
        w.show(0, false);
        c.due("nobody, by 0", 0, () -> w.right(0, false));
        c.due("nothing", 0, () -> w.right(0, true));
        BeltHall v = hall("1", "a,b", "like 0 90 if b;like 0 1");
        v.hold(0, 99);
        v.days(20);
        c.due("lonely 8 by the 9th day and the 18th, and 2 by now", 2, () -> v.thing(0, 4));
        c.due("so it must hold as much more than 2", 4, () -> v.right(0, false));
        c.due("for 91", 91, () -> v.right(0, true));
        BeltHall each = hall("121", "a,a,a,a", "like 0 3;like 1 50;like 2 70");
        c.due("whom it has alone, of 0", 3, () -> each.right(0, true));
        c.due("whom it has alone, of 1", 100, () -> each.right(1, true));
        c.due("whom it has alone, of 2", 70, () -> each.right(2, true));
        BeltHall stay = Check.law(Check.hall(Halls.thing(0, 9, 1) + ";" + Halls.visitor(5, 100)), "like 0 4");
        c.due("tomorrow nobody stays away", 4, () -> stay.right(0, true));
        c.due("by the least", 0, () -> stay.right(0, false));
        BeltHall none = Halls.withThings(2);
        c.due("without visitors", 0, () -> none.right(1, false));
        c.due("without visitors", 0, () -> none.right(1, true));
        c.outOfBounds("thing 2", () -> none.right(2, false));
        c.outOfBounds("thing -1", () -> none.right(-1, true));
    }

    private static void fewest() {
        c.sentence("FEWEST: each THING for which some CAN be had RINGS for one of these: of several the least as bits");
        c.due("no thing", 0, Halls.withVisitors(10)::fewest);
        c.due("no visitor", 0, Halls.withThings(9)::fewest);
        c.due("none rings", 0, hall("1", "a", "like 0 1 if b")::fewest);
        c.due("the least of two", 2, hall("1", "b,a,a", "like 0 1 if a")::fewest);
        c.due("one for both, though greater", 4, hall("11", "a,b,ab", "like 0 1 if a;like 1 1 if b")::fewest);
        c.due("two, the least", 3, hall("11", "a,b,a,b", "like 0 1 if a;like 1 1 if b")::fewest);
        c.due("all", 7, hall("111", "a,b,c", "like 0 1 if a;like 1 1 if b;like 2 1 if c")::fewest);
        c.due("the last one", 512, hall("111111111", "b,b,b,b,b,b,b,b,b,a", "like all 1 if a")::fewest);
        c.due("one that rings for none is left out", 1, hall("11", "a,a", "like 0 1")::fewest);
    }

    private static void aloneAndRivals() {
        c.sentence("ALONE: THINGS that RING for nobody as it is now, as bits");
        BeltHall x = hall("111", "a,b", "like 0 1;like 1 1 if b");
        c.due("2 alone", 4, x::alone);
        x.show(0, false);
        c.due("and the cellar", 5, x::alone);
        c.due("without visitors", 511, Halls.withThings(9)::alone);
        c.due("without things", 0, Halls.withVisitors(9)::alone);
        BeltHall room = hall("11", "a", "like all 1");
        c.due("who rings and has nobody is not alone", 0, room::alone);
        c.sentence("RIVALS: VISITORS for whom two THINGS both RING; IllegalArgumentException: both are one");
        BeltHall y = hall("111", "a,ab,b,ab", "like 0 1 if a;like 1 1 if b");
        c.due("two", 10, () -> y.rivals(0, 1));
        c.due("the other way", 10, () -> y.rivals(1, 0));
        c.due("none", 0, () -> y.rivals(0, 2));
        c.illegal("both are one", () -> y.rivals(2, 2));
        c.outOfBounds("both are none", () -> y.rivals(3, 3));
        c.outOfBounds("the first is none", () -> y.rivals(3, 0));
        c.outOfBounds("the other is none", () -> y.rivals(0, 3));
        c.outOfBounds("the first below 0", () -> y.rivals(-1, 0));
        c.outOfBounds("the other below 0", () -> y.rivals(0, -1));
        y.show(0, false);
        c.due("not in the cellar", 0, () -> y.rivals(0, 1));
    }

    private static void envy() {
        c.sentence("ENVY: LIKING more than that of anybody whom it has itself (of all, if it has nobody)");
        BeltHall x = hall("12", "a,b,c", "like 1 5;like 1 1 if b;like 0 3 if a");
        c.due("thing 1 has two", 6, () -> x.thing(1, 6));
        c.due("less than the greatest it has", 0, () -> x.thing(1, 7));
        Check.law(x, "like 1 5;like 1 1 if b or a;like 0 3 if a");
        c.due("as much as the greatest it has", 0, () -> x.thing(1, 7));
        Check.law(x, "like 1 5;like 1 1 if b;like 1 2 if a;like 0 3 if a");
        c.due("one more than the greatest it has", 1, () -> x.thing(1, 7));
        x.hold(1, 8);
        c.due("nobody, and it does not ring", 0, () -> x.thing(1, 7));
        x.hold(1, 7);
        c.due("nobody: of all for whom it rings", 1, () -> x.thing(1, 7));
        x.show(0, false);
        c.due("it has him itself", 0, () -> x.thing(1, 7));
        BeltHall y = hall("31", "a,b,c", "like 0 9;like 1 1");
        c.due("nobody: of all whom another one has", 7, () -> y.thing(1, 7));
        c.due("who has all envies none", 0, () -> y.thing(0, 7));
        BeltHall z = hall("11", "a,b,c", "like 0 9;like 0 1 if c;like 1 1 if b");
        c.due("whom nothing has is not envied for", 0, () -> z.thing(0, 7));
        BeltHall w = hall("11", "a,b", "like 1 80;like 0 5;like 0 4 if b");
        w.move(0, 2);
        w.show(1, false);
        c.due("it has the first, and nothing has the second", 0, () -> w.thing(0, 7));
        w.show(1, true);
        w.move(0, 0);
        c.due("the second one, whom the other one has", 2, () -> w.thing(0, 7));
    }

    private static void groups() {
        c.sentence("SHARED, LEFT: IndexOutOfBoundsException: there is no such GROUP (0 to 9)");
        BeltHall x = Check.hall("speed 1;thing at 0 hold 0 room 1;thing at 1 hold 0 room 2;"
            + "visitor age 1 clean 1 group 0 away 100;visitor age 1 clean 1 group 9 away 0;"
            + "visitor age 1 clean 1 group 0 away 0;visitor age 1 clean 1 group 9 away 0;"
            + "visitor age 1 clean 0 group 5 away 0");
        c.due("shared by both", 3, () -> x.group(0, false));
        c.due("by one", 2, () -> x.group(9, false));
        c.due("none is left", 0, () -> x.group(0, true));
        c.due("the fourth is left", 8, () -> x.group(9, true));
        c.due("the fifth is left", 16, () -> x.group(5, true));
        c.due("shared by none", 0, () -> x.group(5, false));
        c.due("a group without visitors", 0, () -> x.group(1, true));
        c.due("a group without visitors", 0, () -> x.group(1, false));
        c.outOfBounds("10", () -> x.group(10, true));
        c.outOfBounds("-1", () -> x.group(-1, false));
        c.due("a group of an empty hall", 0, () -> new BeltHall().group(9, true));
        c.outOfBounds("none of an empty hall", () -> new BeltHall().group(10, false));
    }

    // ---- what is found out by rings

    private static void told(BeltHall x, int many, int which, int sent, int... bytes) {
        Check.feed(x, bytes);
        c.due("wants(false)", many, () -> x.wants(false));
        c.due("used up", 0, () -> Halls.tape(x));
        Check.feed(x, bytes);
        c.due("wants(true)", which, () -> x.wants(true));
        c.due("used up", 0, () -> Halls.tape(x));
        Check.feed(x, bytes);
        c.due("send()", sent, x::send);
        c.due("used up", 0, () -> Halls.tape(x));
    }

    private static void notThat(BeltHall x, String name, int... bytes) {
        Check.feed(x, bytes);
        c.illegal("wants(false) of " + name, () -> x.wants(false));
        c.due("used up", 0, () -> Halls.tape(x));
        Check.feed(x, bytes);
        c.illegal("wants(true) of " + name, () -> x.wants(true));
        Check.feed(x, bytes);
        c.illegal("send() of " + name, x::send);
        c.due("used up", 0, () -> Halls.tape(x));
    }

    private static void wants() {
        c.sentence("WANTS: sets of MARKS (0 to 63) so that it rang just for those who have them all: how many; "
            + "the one with the fewest MARKS (of several the least); none");
        BeltHall x = Check.hall(Halls.marked("abcdef") + ";" + Halls.marked("") + ";" + Halls.marked("ab") + ";"
            + Halls.marked("f"));
        told(x, 64, 0, 2, 0, 1);
        told(x, 0, -1, -1, 0, 0);
        told(x, 1, 0, -1, 1, 1);
        told(x, 63, 1, 2, 1, 0);
        told(x, 4, 0, 1, 2, 1);
        told(x, 60, 4, 3, 2, 0);
        told(x, 59, 4, 0, 2, 0, 3, 0);
        told(x, 1, 32, -1, 1, 0, 3, 1);
        told(x, 0, -1, -1, 1, 1, 1, 0);
        BeltHall pairs = Check.hall(Halls.marked("abc") + ";" + Halls.marked("ab") + ";" + Halls.marked("c") + ";"
            + Halls.marked("a") + ";" + Halls.marked("b"));
        told(pairs, 3, 5, 0, 0, 1, 1, 0, 2, 0, 3, 0, 4, 0, 4, 0);
        told(pairs, 61, 4, 0, 3, 0, 4, 0);
        told(pairs, 56, 8, 0, 1, 0, 2, 0, 0, 0);
        c.sentence("Promise 28: 40 bytes at most");
        int[] most = new int[40];
        for (int i = 0; i < 40; i += 2) {
            most[i] = 1;
        }
        told(x, 63, 1, 2, most);
        most[39] = 1;
        told(x, 0, -1, -1, most);
        int[] more = new int[42];
        notThat(x, "42 bytes", more);
        notThat(x, "41 bytes", new int[41]);
        notThat(x, "400 bytes", new int[400]);
        c.sentence("Promise 28: of each two bytes: VISITOR, 1 if it rang, or 0");
        notThat(x, "one byte", 0);
        notThat(x, "three bytes", 0, 1, 0);
        notThat(x, "no visitor 4", 4, 1);
        notThat(x, "no visitor 255", 255, 0);
        notThat(x, "a ring of 2", 0, 2);
        notThat(x, "a ring of 255", 0, 255);
        notThat(x, "no visitor at last", 0, 1, 3, 1, 4, 0);
        notThat(x, "a ring of 2 at last", 0, 1, 3, 2);
        c.sentence("Promise 28: IllegalArgumentException: the TAPE is not that (none may be told)");
        told(x, 64, 0, 2);
        told(new BeltHall(), 64, 0, -1);
        notThat(new BeltHall(), "nobody", 0, 1);
        BeltHall ten = Halls.withVisitors(10);
        told(ten, 1, 0, -1, 9, 1);
        notThat(ten, "visitor 10", 10, 1);
    }

    private static void send() {
        c.sentence("SEND: the greater part is the least (of several the least; none with fewer than two such sets, "
            + "or without VISITORS)");
        c.due("without visitors", -1, Halls.withThings(2)::send);
        BeltHall x = Check.hall(Halls.marked("") + ";" + Halls.marked("abcdef") + ";" + Halls.marked("abcde") + ";"
            + Halls.marked("bcdef"));
        c.due("half and half: the least of two", 2, x::send);
        Check.feed(x, 2, 0, 3, 0);
        c.due("16 sets with both a and f, parted by none: the least", 0, x::send);
        Check.feed(x, 0, 1);
        c.due("one set", -1, x::send);
        Check.feed(x, 0, 1, 0, 0);
        c.due("no set", -1, x::send);
        BeltHall all = Check.hall(Halls.times(3, Halls.marked("abcdef")));
        c.due("all 64 sets, parted by none: the least", 0, all::send);
        BeltHall less = Check.hall(Halls.times(2, Halls.marked("abcdef")) + ";" + Halls.marked(""));
        c.due("63 is less than 64", 2, less::send);
        BeltHall two = Check.hall(Halls.marked("a") + ";" + Halls.marked(""));
        Check.feed(two, 0, 1);
        c.due("two sets are parted", 1, two::send);
        Check.feed(two, 0, 1, 1, 0);
        c.due("one set is not", -1, two::send);
    }

    private static void about() {
        c.sentence("ABOUT a VISITOR: how many; those MARKS that are in all, in any, as bits (0 without)");
        BeltHall x = hall("11", "a,abcdef", "like 0 1 if a;like 1 1 if b and c");
        int[][] due = {{24, 0, 62}, {24, 1, 63}, {8, 6, 62}, {8, 7, 63}};
        for (int rang = 0; rang < 4; rang++) {
            for (int what = 0; what < 3; what++) {
                int r = rang;
                int w = what;
                c.due("about(1, " + r + ", " + w + ")", due[r][w], () -> x.about(1, r, w));
                c.due("bits of none", due[r][w], () -> x.about(1, r | -4, w));
                c.due("bits of none", due[r][w], () -> x.about(1, r | 1 << 31, w));
                c.due("bits of none", due[r][w], () -> x.about(1, r + 4, w));
            }
        }
        c.due("his marks stay", 63, () -> x.visitor(1, 4));
        x.show(1, false);
        for (int what = 0; what < 3; what++) {
            int w = what;
            c.due("0 without", 0, () -> x.about(0, 2, w));
        }
        Check.law(x, "");
        c.due("all sets, if nothing rings for any", 64, () -> x.about(0, 0, 0));
        c.due("0 without", 0, () -> x.about(0, 1, 2));
        BeltHall none = Halls.withVisitors(1);
        c.due("without things all sets", 64, () -> none.about(0, -1, 0));
        c.due("no mark is in all", 0, () -> none.about(0, -1, 1));
        c.due("each is in some", 63, () -> none.about(0, -1, 2));
        BeltHall nine = hall("111111111", "a", "like 8 1 if f;like all 1 if e");
        c.due("the ninth alone", 16, () -> nine.about(0, 256, 0));
        c.due("all nine", 32, () -> nine.about(0, 511, 0));
        c.sentence("Promise 30: NoSuchElementException: another what (0 to 2)");
        c.noSuch("3", () -> x.about(0, 0, 3));
        c.noSuch("-1", () -> x.about(0, 0, -1));
        c.outOfBounds("visitor 2 first", () -> x.about(2, 0, 3));
        c.outOfBounds("visitor -1", () -> x.about(-1, 0, 0));
    }

    // ---- days that do not stay

    private static void atLast() {
        c.sentence("HAD AT LAST: behind how many DAYS AHEAD (1 to 30) a VISITOR is had first on the last of them; "
            + "none");
        int[] holds = {0, 1, 2, 3, 29, 30, 31, 32, 99};
        for (int hold : holds) {
            BeltHall x = Check.hall(Halls.thing(0, hold, 1) + ";" + Halls.visitor(1, 100));
            int day = Math.max(1, hold);
            boolean had = day <= 30;
            c.due("hold " + hold + ": had at last", had ? day : -1, () -> x.last(0, false));
            c.due("hold " + hold + ": comes at last", had ? day : -1, () -> x.comes(0));
            int times = !had ? 0 : hold <= 1 ? 30 : 30 / hold;
            c.sentence("PASSED OVER: on how many of 30 DAYS AHEAD nobody has a VISITOR");
            c.due("hold " + hold, 30 - times, () -> x.last(0, true));
            c.sentence("HAD AT LAST, COMES AT LAST; none");
        }
        BeltHall x = Check.hall(Halls.thing(0, 0, 1) + ";" + Halls.times(2, Halls.visitor(1)));
        c.due("one always", 0, () -> x.last(0, true));
        c.due("one never", 30, () -> x.last(1, true));
        c.due("never at last", -1, () -> x.last(1, false));
        x.days(3);
        c.due("from now on", 1, () -> x.last(0, false));
        c.outOfBounds("visitor 2", () -> x.last(2, false));
        c.outOfBounds("visitor -1", () -> x.last(-1, true));
        c.outOfBounds("thing 1", () -> x.comes(1));
        c.outOfBounds("thing -1", () -> x.comes(-1));
        x.show(0, false);
        c.due("from the cellar never", -1, () -> x.comes(0));
        BeltHall none = Halls.withThings(1);
        c.due("nobody comes", -1, () -> none.comes(0));
        BeltHall nothing = Halls.withVisitors(1);
        c.due("nothing has", -1, () -> nothing.last(0, false));
        c.due("nothing has", 30, () -> nothing.last(0, true));
    }

    private static void steps() {
        c.sentence("STEPS: how many STEPS it takes past all CELLS; or the STEP in which one passes a CELL");
        int[] steps = {20, 10, 7, 5, 4, 4, 3, 3, 3};
        for (int i = 0; i < 9; i++) {
            BeltHall x = Check.hall("speed " + (i + 1));
            int due = steps[i];
            c.due("speed " + (i + 1), due, () -> x.steps(-1));
            c.due("the last cell", due - 1, () -> x.steps(19));
            c.due("the first cell", 0, () -> x.steps(0));
            c.outOfBounds("20", () -> x.steps(20));
            c.outOfBounds("-2", () -> x.steps(-2));
        }
    }

    private static int hadFrom(BeltHall x, int seed, int n) {
        int before = x.seed(seed);
        int had = x.trial(n);
        x.seed(before);
        return had;
    }

    private static void trials() {
        c.sentence("TRIAL of N DAYS (0 to 30) from now (draws, too; nothing stays)");
        BeltHall x = Check.hall(Halls.thing(0, 0, 3) + ";" + Halls.visitor(1, 50) + ";" + Halls.visitor(1, 0));
        c.due("0", 0, () -> x.trial(0));
        for (int n = 1; n <= 30; n++) {
            BeltHall y = Check.hall(Halls.thing(0, 0, 3) + ";" + Halls.visitor(1, 50) + ";" + Halls.visitor(1, 0));
            int days = n;
            c.due("a trial of " + n + " comes true", y.days(n), () -> x.trial(days));
        }
        c.due("nothing stays", 0, () -> x.count(4) + x.count(9) + x.count(10) + x.count(11));
        c.due("nor a draw", 1, () -> Halls.seedOf(x));
        c.illegal("31", () -> x.trial(31));
        c.illegal("-1", () -> x.trial(-1));
        c.illegal("the least int", () -> x.trial(Integer.MIN_VALUE));
        c.sentence("SPAN: the fewest and the most of such TRIALS from SEED 1, 2, .. 6");
        c.due("0", 0, () -> x.span(0, true));
        c.due("0", 0, () -> x.span(0, false));
        c.illegal("31", () -> x.span(31, true));
        c.illegal("-1", () -> x.span(-1, false));
        boolean[][] outside = new boolean[2][2];
        for (int away = 2; away < 99; away += 3) {
            for (int n = 1; n <= 30; n += n < 8 ? 1 : 11) {
                spanIs(away, n, outside);
            }
        }
        for (int i = 0; i < 4; i++) {
            boolean seen = outside[i / 2][i % 2];
            c.due("a hall in which seed " + 7 * (i / 2) + " would be another bound was tried", true, () -> seen);
        }
        BeltHall all = Check.hall(Halls.thing(0, 0, 3) + ";" + Halls.thing(1, 0, 3) + ";" + Halls.thing(2, 0, 3) + ";"
            + Halls.thing(3, 0, 3), Halls.times(5, Halls.visitor(1)), Halls.times(5, Halls.visitor(1)));
        c.due("as many as can be, the fewest", 300, () -> all.span(30, false));
        c.due("as many as can be, the most", 300, () -> all.span(30, true));
    }

    private static void spanIs(int away, int n, boolean[][] outside) {
        BeltHall x = Check.hall(Halls.thing(0, 0, 1) + ";" + Halls.visitor(1, away));
        int least = 1000;
        int most = -1;
        for (int seed = 1; seed <= 6; seed++) {
            int had = hadFrom(x, seed, n);
            least = Math.min(least, had);
            most = Math.max(most, had);
        }
        int fewest = least;
        int greatest = most;
        for (int i = 0; i < 2; i++) {
            int had = hadFrom(x, 7 * i, n);
            outside[i][0] |= had < fewest;
            outside[i][1] |= had > greatest;
        }
        x.seed(77);
        c.due("span(" + n + ", false) with away " + away, fewest, () -> x.span(n, false));
        c.due("span(" + n + ", true) with away " + away, greatest, () -> x.span(n, true));
        c.due("the seed stays", 77, () -> Halls.seedOf(x));
    }

    private static void led() {
        c.sentence("LED BY THE LOG: how many a THING had; the VISITOR whom it had most (of several the least; none)");
        BeltHall x = Check.hall("speed 1;" + Halls.thing(0, 0, 1) + ";" + Halls.thing(1, 0, 3) + ";"
            + Halls.times(3, Halls.visitor(1)));
        c.due("none by none", 0, () -> x.led(0, false));
        c.due("nobody", -1, () -> x.led(0, true));
        x.days(1);
        c.due("one", 1, () -> x.led(0, false));
        c.due("whom", 0, () -> x.led(0, true));
        c.due("two", 2, () -> x.led(1, false));
        c.due("the least of two", 1, () -> x.led(1, true));
        x.clean(1, 0);
        x.days(1);
        c.due("three", 3, () -> x.led(1, false));
        c.due("the one it had most", 2, () -> x.led(1, true));
        c.outOfBounds("thing 2", () -> x.led(2, false));
        c.outOfBounds("thing -1", () -> x.led(-1, true));
        BeltHall y = Check.hall("speed 1;" + Halls.thing(0, 0, 1) + ";" + Halls.times(2, Halls.visitor(1)));
        y.days(31);
        y.clean(0, 0);
        y.days(29);
        c.due("60 rows", 60, () -> y.led(0, false));
        c.due("31 and 29", 0, () -> y.led(0, true));
        y.days(1);
        c.due("60 rows, of which the earliest is gone", 60, () -> y.led(0, false));
        c.due("30 and 30", 0, () -> y.led(0, true));
        y.days(1);
        c.due("29 and 31", 1, () -> y.led(0, true));
        BeltHall z = Halls.withThings(9);
        c.due("the ninth", 0, () -> z.led(8, false));
        Check.feed(z, Halls.times(7, Halls.visitor(0)));
        z.hall();
        Check.feed(z, Halls.times(2, Halls.visitor(0)) + ";" + Halls.visitor(1));
        z.hall();
        z.days(1);
        c.due("the tenth visitor", 9, () -> z.led(0, true));
    }

    public static void main(String[] args) {
        hadAndFirst();
        most();
        dearest();
        cannot();
        change();
        right();
        fewest();
        aloneAndRivals();
        envy();
        groups();
        wants();
        send();
        about();
        atLast();
        steps();
        trials();
        led();
        c.finish();
    }
}
