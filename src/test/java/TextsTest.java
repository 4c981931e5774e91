/** Promises 1 to 6: a new object, THE TAPE, texts of THE HALL and of THE LAW, the first wrong byte. */
public final class TextsTest {
    private static final Check c = new Check();
    private static final Class<?> WRONG = IllegalArgumentException.class;

    private static void hallAt(String text, int fault) {
        BeltHall x = Check.hall("thing at 7 hold 1 room 1");
        Check.feed(x, text);
        c.due("hall of '" + text + "'", fault < 0 ? (Object) 2 : WRONG, x::hall);
        c.due("its fault", fault, x::fault);
        if (fault >= 0) {
            c.due("texts behind a wrong one", 1, () -> x.count(2));
            c.due("things behind a wrong one", 1, () -> x.count(0));
            c.due("visitors behind a wrong one", 0, () -> x.count(1));
            c.due("speed behind a wrong one", 2, () -> x.count(5));
            c.due("shown behind a wrong one", 1, () -> x.count(6));
        }
        c.due("the tape is used up", 20, () -> x.feed(0, 0, 0, 0, 0));
    }

    private static void lawAt(String text, int lines, int fault) {
        BeltHall x = Check.law(new BeltHall(), "like 0 1;like 1 2");
        Check.feed(x, text);
        c.due("law of '" + text + "'", fault < 0 ? (Object) lines : WRONG, x::law);
        c.due("its fault", fault, x::fault);
        c.due("lines behind '" + text + "'", fault < 0 ? lines : 2, () -> x.count(3));
        c.due("the tape is used up", 20, () -> x.feed(0, 0, 0, 0, 0));
    }

    private static void newObject() {
        BeltHall x = new BeltHall();
        int[] counts = {0, 0, 0, -1, 0, 2, 0, 0, 0, 0, 0, 0};
        for (int i = 0; i < counts.length; i++) {
            int what = i;
            c.due("new count(" + i + ")", counts[i], () -> x.count(what));
        }
        c.due("new seed", 1, () -> x.seed(1));
        c.due("new fault", -1, x::fault);
        c.due("new undo", false, x::undo);
        c.due("new back", false, x::back);
        c.outOfBounds("new thing", () -> x.thing(0, 0));
        c.outOfBounds("new visitor", () -> x.visitor(0, 0));
        c.due("an empty tape", false, () -> x.end(1));
    }

    private static void tape() {
        BeltHall x = new BeltHall();
        for (int i = 1; i <= 20; i++) {
            c.due("feed " + i, 20 * i, () -> x.feed(0x20202020, 0x20202020, 0x20202020, 0x20202020, 0x20202020));
        }
        c.due("feed beyond 400", -1, () -> x.feed(0, 0, 0, 0, 0));
        c.due("none came", false, () -> x.end(401));
        c.due("end below 0", false, () -> x.end(-1));
        c.due("end(400)", true, () -> x.end(400));
        c.due("end(381)", true, () -> x.end(381));
        c.due("feed to 401", -1, () -> x.feed(0, 0, 0, 0, 0));
        c.due("end(380)", true, () -> x.end(380));
        c.due("feed to 400", 400, () -> x.feed(0x20202020, 0x20202020, 0x20202020, 0x20202020, 0x20202020));
        c.due("blanks alone", 1, x::hall);
        c.due("used up", false, () -> x.end(1));
        c.due("end(0)", true, () -> x.end(0));
        // s p e e d   7 ; and bytes above 127 that must not be taken for negative ones
        x.feed(0x73706565, 0x64203700, 0, 0, 0);
        x.end(7);
        c.due("highest byte first", 2, x::hall);
        c.due("speed", 7, () -> x.count(5));
        x.feed(0x73706565, 0x642037FF, -1, -1, -1);
        c.due("a byte of 255", WRONG, x::hall);
        c.due("where", 7, x::fault);
        c.due("no minus", WRONG, () -> { Check.feed(x, "speed -1"); return x.hall(); });
        c.due("where", 6, x::fault);
    }

    private static void halls() {
        BeltHall x = Check.hall("thing at 19 hold 99 room 3;thing at 0hold 0room 1 ; speed 9;cellar 0",
            "  visitor age 99 clean 9 group 9 away 100 marks fedcba ;visitor age 0 clean 00 group 000 away 007  ");
        int[][] things = {{19, 99, 3, 0, 0}, {0, 0, 1, 1, 0}};
        int[][] visitors = {{99, 9, 9, 100, 63}, {0, 0, 0, 7, 0}};
        for (int i = 0; i < 10; i++) {
            int row = i / 5;
            int what = i % 5;
            c.due("thing(" + row + ", " + what + ")", things[row][what], () -> x.thing(row, what));
            c.due("visitor(" + row + ", " + what + ")", visitors[row][what], () -> x.visitor(row, what));
        }
        c.due("texts", 2, () -> x.count(2));
        c.due("speed", 9, () -> x.count(5));
        c.due("numbering goes on", 3, () -> {
            Check.feed(x, "thing at 4 hold 5 room 2;cellar 2;cellar 1");
            return x.hall();
        });
        c.due("the third thing", 4, () -> x.thing(2, 0));
        c.due("shown", 0, () -> x.count(6));
        hallAt("", -1);
        hallAt("speed 3", -1);
        hallAt("speed 3;", 8);
        hallAt("speed 3;  ", 10);
        hallAt(";", 0);
        hallAt("speed 3 4", 8);
        hallAt("speed 3 speed 4", 8);
        hallAt("speed 0003", 6);
        hallAt("speed003", -1);
        hallAt("speed 0", 6);
        hallAt("speed 10", 6);
        hallAt("Speed 1", 0);
        hallAt("speeds 1", 0);
        hallAt("  spee", 2);
        hallAt("\tspeed 1", 0);
        hallAt("thing", 5);
        hallAt("thing at", 8);
        hallAt("thing at ", 9);
        hallAt("thing on 3", 6);
        hallAt("thing at 7 hold 1 room 1", 9);
        hallAt("thing at 20 hold 1 room 1", 9);
        hallAt("thing at 1 hold 100 room 1", 16);
        hallAt("thing at 1 hold 99 room 0", 24);
        hallAt("thing at 1 hold 99 room 4", 24);
        hallAt("thing at 1 hold 99 room 3;thing at 1 hold 1 room 1", 35);
        hallAt("cellar 1", 7);
        hallAt("cellar 1;thing at 2 hold 0 room 1", 7);
        hallAt("thing at 2 hold 0 room 1;cellar 1", -1);
        hallAt("cellar", 6);
        hallAt("visitor age 100", 12);
        hallAt("visitor age 99 clean 10", 21);
        hallAt("visitor age 99 clean 9 group 10", 29);
        hallAt("visitor age 99 clean 9 group 9 away 101", 36);
        hallAt("visitor age 99 clean 9 group 9 away 100", -1);
        hallAt("visitor age 99 clean 9 group 9 away 1 mark a", 38);
        hallAt("visitor age 99 clean 9 group 9 away 1 marks", 43);
        hallAt("visitor age 99 clean 9 group 9 away 1 marks ag", 44);
        hallAt("visitor age 99 clean 9 group 9 away 1 marks aa", 44);
        hallAt("visitor age 99 clean 9 group 9 away 1 marks 1", 44);
        hallAt("visitor age 99 clean 9 group 9 away 1 marks a b", 46);
        hallAt("visitor age 99 clean 9 group 9 away 1 marks;", 43);
        hallAt("speedz 1", 0);
        hallAt("speed`1", 5);
        hallAt("speed{1", 5);
        hallAt("speed 1/", 7);
        hallAt("speed 1:", 7);
        tooMuch();
    }

    private static void ends() {
        String thing = "thing at 1 hold 2 room 3";
        String visitor = "visitor age 1 clean 2 group 3 away 4";
        int[] ofThing = {5, 8, 10, 15, 17, 22};
        int[] ofVisitor = {7, 11, 13, 19, 21, 27, 29, 34};
        for (int end : ofThing) {
            hallAt(thing.substring(0, end), end);
            hallAt(thing.substring(0, end) + ";", end);
            hallAt(thing.substring(0, end) + " ?", end + 1);
            hallAt(thing.substring(0, end) + "?", end);
        }
        for (int end : ofVisitor) {
            hallAt(visitor.substring(0, end), end);
            hallAt(visitor.substring(0, end) + ";", end);
            hallAt(visitor.substring(0, end) + "  ", end + 2);
        }
        hallAt(thing + ";" + visitor + ";speed", 67);
        hallAt(thing + ";" + visitor + ";cellar", 68);
    }

    private static void tooMuch() {
        StringBuilder lines = new StringBuilder("speed 1");
        for (int i = 1; i < 14; i++) {
            lines.append(";speed 1");
        }
        hallAt(lines.toString(), -1);
        hallAt(lines + "; speed 1", 113);
        hallAt(lines + "; ", 113);
        BeltHall x = new BeltHall();
        for (int i = 0; i < 9; i++) {
            Check.feed(x, "thing at " + i + " hold 1 room 1");
            x.hall();
        }
        Check.feed(x, "speed 1; thing at 10 hold 1 room 1");
        c.due("a tenth thing", WRONG, x::hall);
        c.due("at its first word", 9, x::fault);
        BeltHall y = new BeltHall();
        String visitor = "visitor age 1 clean 1 group 1 away 1";
        for (int i = 0; i < 10; i++) {
            Check.feed(y, visitor);
            y.hall();
        }
        Check.feed(y, " " + visitor);
        c.due("an eleventh visitor", WRONG, y::hall);
        c.due("at its first word", 1, y::fault);
        Check.feed(y, "");
        c.due("the 11th text", 11, y::hall);
        Check.feed(y, "speed 9");
        c.due("the 12th text", 12, y::hall);
        Check.feed(y, "speed 3");
        c.due("a 13th text", UnsupportedOperationException.class, y::hall);
        c.due("it was right", -1, y::fault);
        c.due("it stays out", 9, () -> y.count(5));
        c.due("it used the tape up", false, () -> y.end(1));
        Check.feed(y, "speed 0");
        c.due("a wrong 13th text", WRONG, y::hall);
        c.due("it was read", 6, y::fault);
    }

    private static void laws() {
        lawAt("", 0, -1);
        lawAt("   ", 0, -1);
        lawAt(";", 0, 0);
        lawAt("like all 99", 1, -1);
        lawAt("like all 100", 0, 9);
        lawAt("loathe 8 0 ;like 008 099", 2, -1);
        lawAt("like 9 1", 0, 5);
        lawAt("like a 1", 0, 5);
        lawAt("like 1", 0, 6);
        lawAt("love 1 1", 0, 0);
        lawAt("like 1 1 when a", 0, 9);
        lawAt("like 1 1 if", 0, 11);
        lawAt("like 1 1 if ;", 0, 12);
        lawAt("like 1 1;", 0, 9);
        lawAt("like 1 1 if a b", 0, 14);
        lawAt("like 1 1 if ab", 0, 12);
        lawAt("like 1 1 if g", 0, 12);
        lawAt("like 1 1 if a < 3", 0, 14);
        lawAt("like 1 1 if age", 0, 15);
        lawAt("like 1 1 if age and a", 0, 16);
        lawAt("like 1 1 if age < ", 0, 18);
        lawAt("like 1 1 if age < a", 0, 18);
        lawAt("like 1 1 if age<999", 1, -1);
        lawAt("like 1 1 if age<1000", 0, 16);
        lawAt("like 1 1 if age<1<2", 0, 17);
        lawAt("like 1 1 if age+<1", 0, 16);
        lawAt("like 1 1 if age=1", 0, 15);
        lawAt("like 1 1 if (a", 0, 14);
        lawAt("like 1 1 if (a;", 0, 14);
        lawAt("like 1 1 if (a))", 0, 15);
        lawAt("like 1 1 if a)", 0, 13);
        lawAt("like 1 1 if ()", 0, 13);
        lawAt("like 1 1 if (age)<3", 0, 16);
        lawAt("like 1 1 if and a", 0, 12);
        lawAt("like 1 1 if a or", 0, 16);
        lawAt("like 1 1 if not", 0, 15);
        lawAt("like 1 1 if((((((a))))))", 1, -1);
        lawAt("like 1 1 if(((((((a)))))))", 0, 17);
        lawAt("like 1 1 if not(not(not a or not b)and c)and not(not(not(d)))", 1, -1);
        lawAt("like 1 1 if not(not(not(a or not b)and c))", 0, 29);
        lawAt("like 1 1 if not(not(not(not a)))", 0, 24);
        lawAt("like 1 1 if not not not(not(a))", 1, -1);
        lawAt("like 1 1 if not not not(not((a)))", 0, 28);
        lawAt("like 1 1 if (a)(b)", 0, 15);
        lawAt("like 1 1 if a and not b and not c and not d and not e and not f and not a and not b", 1, -1);
        lawAt("like 1 1 if(a)and(b)and(c)and(d)and(e)and(f)and(a)and(b)", 1, -1);
        StringBuilder lines = new StringBuilder("like all 1");
        for (int i = 1; i < 12; i++) {
            lines.append(";like all 1");
        }
        lawAt(lines.toString(), 12, -1);
        lawAt(lines + "; like all 1", 0, 133);
        lawAt(lines + ";", 0, 132);
    }

    public static void main(String[] args) {
        newObject();
        tape();
        halls();
        ends();
        laws();
        c.finish();
    }
}
