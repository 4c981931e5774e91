/**
 * The boundary cases of the texts: Terms, part 1, and promises 1 to 6, a test for each sentence that names one.
 * In a text told here ^ stands ahead of the first wrong byte, and is none of it; without one the text is right.
 */
public final class TextEdgesTest {
    private static final Check c = new Check();
    private static final String THING = "thing at 5 hold 6 room 2";
    private static final String VISITOR = "visitor age 1 clean 2 group 3 away 4";

    private static void hall(BeltHall x, String told) {
        Check.feed(x, told.replace("^", ""));
        if (told.indexOf('^') < 0) {
            c.due("hall of '" + told + "'", x.count(2) + 1, x::hall);
        } else {
            c.illegal("hall of '" + told + "'", x::hall);
        }
        c.due("fault of '" + told + "'", told.indexOf('^'), x::fault);
    }

    private static void hall(String told) {
        hall(new BeltHall(), told);
    }

    private static void law(BeltHall x, String told) {
        Check.feed(x, told.replace("^", ""));
        if (told.indexOf('^') < 0) {
            int lines = told.trim().isEmpty() ? 0 : told.split(";").length;
            c.due("law of '" + told + "'", lines, x::law);
            c.due("lines of '" + told + "'", lines, () -> x.count(3));
        } else {
            c.illegal("law of '" + told + "'", x::law);
        }
        c.due("fault of '" + told + "'", told.indexOf('^'), x::fault);
    }

    private static void law(String told) {
        law(new BeltHall(), told);
    }

    private static void condition(String told) {
        law("like 0 1 if " + told);
    }

    // ---- Terms, part 1: what there is

    private static void cells() {
        c.sentence("CELLS 0 to 19");
        hall("thing at 0 hold 0 room 1");
        hall("thing at 19 hold 0 room 1");
        hall("thing at ^20 hold 0 room 1");
        hall("thing at ^999 hold 0 room 1");
        hall("thing at ^-1 hold 0 room 1");
        BeltHall x = Check.hall("thing at 0 hold 0 room 1;thing at 19 hold 0 room 1");
        c.due("the first cell", 0, () -> x.thing(0, 0));
        c.due("the last cell", 19, () -> x.thing(1, 0));
    }

    private static void speed() {
        c.sentence("SPEED 1 to 9 (2 at first)");
        c.due("at first", 2, () -> new BeltHall().count(5));
        hall("speed ^0");
        hall("speed ^10");
        for (int speed = 1; speed <= 9; speed++) {
            BeltHall x = new BeltHall();
            hall(x, "speed " + speed);
            c.due("speed", speed, () -> x.count(5));
        }
    }

    private static void things() {
        c.sentence("THINGS (at most 9, numbered from 0 on)");
        BeltHall x = Halls.withThings(8);
        c.outOfBounds("the ninth is not there yet", () -> x.thing(8, 0));
        hall(x, THING.replace("5", "19"));
        c.due("nine", 9, () -> x.count(0));
        c.due("the first is 0", 0, () -> x.thing(0, 0));
        c.due("the last is 8", 19, () -> x.thing(8, 0));
        c.outOfBounds("no thing 9", () -> x.thing(9, 0));
        hall(x, "^thing at 18 hold 0 room 1");
        hall(x, "speed 1; ^thing at 18 hold 0 room 1");
        hall(x, " ^thing");
        c.due("nine still", 9, () -> x.count(0));
        BeltHall y = Halls.withThings(7);
        hall(y, "thing at 17 hold 0 room 1;thing at 18 hold 0 room 1;^thing at 19 hold 0 room 1");
        c.due("all of one text", 7, () -> y.count(0));
        hall(y, "thing at 17 hold 0 room 1;thing at 18 hold 0 room 1");
        c.due("all of one text", 9, () -> y.count(0));
    }

    private static void ownCell() {
        c.sentence("a CELL, one's own alone; at: a CELL that no THING has");
        hall("thing at 4 hold 0 room 1;thing at ^4 hold 0 room 1");
        hall("thing at 4 hold 0 room 1;cellar 0;thing at ^04 hold 0 room 1");
        BeltHall x = Check.hall("thing at 4 hold 0 room 1");
        hall(x, "thing at ^4 hold 0 room 1");
        x.move(0, 5);
        hall(x, "thing at ^5 hold 0 room 1");
        hall(x, "thing at 4 hold 0 room 1");
        c.due("the cell left is free", 4, () -> x.thing(1, 0));
    }

    private static void ofThings() {
        c.sentence("HOLD 0 to 99; ROOM 1 to 3; SHOWN (at first), or in the cellar; LONELY 0 (at first) to 99");
        hall("thing at 1 hold 0 room 1");
        hall("thing at 1 hold 99 room 3");
        hall("thing at 1 hold ^100 room 1");
        hall("thing at 1 hold ^- 1 room 1");
        hall("thing at 1 hold 0 room ^0");
        hall("thing at 1 hold 0 room ^4");
        BeltHall x = Check.hall("thing at 1 hold 99 room 3;thing at 2 hold 0 room 1;cellar 1");
        int[][] due = {{1, 99, 3, 1, 0}, {2, 0, 1, 0, 0}};
        for (int i = 0; i < 10; i++) {
            int thing = i / 5;
            int what = i % 5;
            c.due("thing(" + thing + ", " + what + ")", due[thing][what], () -> x.thing(thing, what));
        }
    }

    private static void visitors() {
        c.sentence("VISITORS (at most 10, numbered from 0 on)");
        BeltHall x = Halls.withVisitors(9);
        c.outOfBounds("the tenth is not there yet", () -> x.visitor(9, 0));
        hall(x, "visitor age 99 clean 0 group 0 away 0");
        c.due("ten", 10, () -> x.count(1));
        c.due("the first is 0", 0, () -> x.visitor(0, 0));
        c.due("the last is 9", 99, () -> x.visitor(9, 0));
        c.outOfBounds("no visitor 10", () -> x.visitor(10, 0));
        hall(x, "^" + VISITOR);
        hall(x, "speed 1 ;  ^" + VISITOR);
        hall(x, "^visitor");
        c.due("ten still", 10, () -> x.count(1));
        BeltHall y = Halls.withVisitors(8);
        hall(y, Halls.times(2, VISITOR) + ";^" + VISITOR);
        c.due("all of one text", 8, () -> y.count(1));
        hall(y, Halls.times(2, VISITOR));
        c.due("all of one text", 10, () -> y.count(1));
    }

    private static void ofVisitors() {
        c.sentence("AGE 0 to 99, CLEAN 0 to 9, a GROUP 0 to 9, AWAY 0 to 100");
        hall("visitor age 0 clean 0 group 0 away 0");
        hall("visitor age 99 clean 9 group 9 away 100");
        hall("visitor age ^100 clean 0 group 0 away 0");
        hall("visitor age 0 clean ^10 group 0 away 0");
        hall("visitor age 0 clean 0 group ^10 away 0");
        hall("visitor age 0 clean 0 group 0 away ^101");
        BeltHall x = Check.hall("visitor age 99 clean 9 group 9 away 100;visitor age 0 clean 0 group 0 away 0");
        int[][] due = {{99, 9, 9, 100, 0}, {0, 0, 0, 0, 0}};
        for (int i = 0; i < 10; i++) {
            int visitor = i / 5;
            int what = i % 5;
            c.due("visitor(" + visitor + ", " + what + ")", due[visitor][what], () -> x.visitor(visitor, what));
        }
    }

    private static void marks() {
        c.sentence("MARKS a to f (0 to 5), as bits; M: a word of letters a to f, none twice");
        String[] words = {"a", "b", "c", "d", "e", "f", "fa", "abcdef", "fedcba"};
        int[] due = {1, 2, 4, 8, 16, 32, 33, 63, 63};
        for (int i = 0; i < words.length; i++) {
            BeltHall x = new BeltHall();
            hall(x, VISITOR + " marks " + words[i]);
            c.due("marks " + words[i], due[i], () -> x.visitor(0, 4));
        }
        hall(VISITOR + " marks ^g");
        hall(VISITOR + " marks ^abcdefg");
        hall(VISITOR + " marks ^aa");
        hall(VISITOR + " marks ^fbcaf");
        hall(VISITOR + " marks ^abcdefa");
        hall(VISITOR + " marks ^A");
        hall(VISITOR + " marks ^`");
        hall(VISITOR + " marks ^1");
        hall(VISITOR + " marks a ^b");
        hall(VISITOR + " marks ^marks");
        hall(VISITOR + " marks^");
        hall(VISITOR + " marks ^;speed 1");
        hall(VISITOR + " ^abc");
        hall(VISITOR + " marks a ^marks b");
    }

    private static void dayAtFirst() {
        c.sentence("DAY: 0 at first");
        c.due("new", 0, () -> new BeltHall().count(4));
        c.due("behind texts", 0, () -> Check.hall(Halls.SMALL).count(4));
    }

    // ---- Terms, part 1: texts of THE HALL

    private static void twelveTexts() {
        c.sentence("THE HALL is told in texts (at most 12, one behind another)");
        BeltHall x = new BeltHall();
        for (int i = 1; i <= 11; i++) {
            hall(x, i % 2 == 0 ? "" : "thing at " + i + " hold 0 room 1");
            hall(x, "speed^");
        }
        c.due("wrong ones do not count", 11, () -> x.count(2));
        hall(x, "speed 9");
        c.due("the 12th", 12, () -> x.count(2));
        Check.feed(x, "speed 4");
        c.unsupported("the 13th", x::hall);
        c.due("it was right", -1, x::fault);
        Check.feed(x, "");
        c.unsupported("an empty 13th", x::hall);
        c.due("still 12", 12, () -> x.count(2));
        c.due("its speed stays out", 9, () -> x.count(5));
        c.due("all things stay", 6, () -> x.count(0));
        hall(x, "speed ^0");
        c.due("a wrong 13th is read", 12, () -> x.count(2));
        BeltHall y = new BeltHall();
        y.image();
        for (int i = 1; i <= 12; i++) {
            hall(y, "");
        }
        y.back();
        hall(y, "");
        c.due("back at none", 1, () -> y.count(2));
    }

    private static void hallLines() {
        c.sentence("LINE { ; LINE }, at most 14");
        hall(Halls.times(13, "speed 3"));
        hall(Halls.times(14, "speed 3"));
        hall(Halls.times(14, "speed 3") + "; ^speed 3");
        hall(Halls.times(14, "speed 3") + ";^speed");
        hall(Halls.times(14, "speed 3") + "; ^slow 3");
        hall(Halls.times(14, "speed 3") + ";^");
        hall(Halls.times(15, "speed 3").replaceAll("speed 3$", "^speed 3"));
        BeltHall x = new BeltHall();
        hall(x, Halls.times(9, "speed 3") + ";thing at 0 hold 0 room 1;" + Halls.times(4, "speed 8"));
        c.due("the first behind none, the last", 8, () -> x.count(5));
        hall(x, Halls.times(14, "cellar 0"));
        hall(x, Halls.times(14, "cellar 0") + ";^cellar 0");
        c.due("of each text anew", 2, () -> x.count(2));
        hall("^;speed 3");
        hall("speed 3;^;speed 3");
        hall("speed 3;^");
        hall("speed 3 ^speed 3");
        hall("speed 3^,speed 3");
    }

    private static void thereByThen() {
        c.sentence("T: a THING that there is by then");
        hall("cellar ^0");
        hall("cellar ^0;thing at 1 hold 0 room 1");
        hall("thing at 1 hold 0 room 1;cellar 0");
        hall("thing at 1 hold 0 room 1;cellar ^1;thing at 2 hold 0 room 1");
        hall(Halls.withThings(9), "cellar 8");
        hall(Halls.withThings(9), "cellar ^9");
        BeltHall x = Halls.withThings(1);
        hall(x, "cellar ^1");
        hall(x, "thing at 9 hold 0 room 1;cellar 1");
        c.due("shown", 1, () -> x.count(6));
        hall(x, "cellar 1");
        c.due("in the cellar already", 1, () -> x.count(6));
    }

    private static void digits() {
        c.sentence("Numbers are of 1 to 3 digits");
        hall("speed 1");
        hall("speed 01");
        hall("speed 001");
        hall("speed ^0001");
        hall("speed ^00001");
        hall("thing at ^0000 hold 0 room 1");
        hall("visitor age 000 clean 000 group 000 away 100");
        hall("visitor age 0 clean 0 group 0 away ^0100");
        hall("visitor age 0 clean 0 group 0 away ^4294967296");
        hall("visitor age 0 clean 0 group 0 away ^1000");
        hall("speed^");
        hall("speed ^one");
        hall("speed 1 ^0");
        law("like 008 099 if 000<999");
        law("like ^0008 1");
        law("like 1 ^0099");
        condition("age<^0001");
        condition("^1000<age");
        condition("age<^1000");
        condition("age+^1000<1");
    }

    // ---- Terms, part 1: texts of THE LAW

    private static void lawInPlace() {
        c.sentence("THE LAW (a text, in place of the one before)");
        BeltHall x = Check.hall(Halls.SMALL);
        law(x, "like all 9 if a;like all 8");
        law(x, "like all 7");
        c.due("lines", 1, () -> x.count(3));
        c.due("not both", 7, () -> x.liking(0, 0));
        law(x, "");
        c.due("none", 0, () -> x.liking(0, 0));
        for (int i = 0; i < 20; i++) {
            law(x, "like all " + i);
        }
        c.due("as often as one likes", 19, () -> x.liking(0, 0));
        law(x, "like all 3 if f");
        law(x, "like all 4 if f");
        law(x, "like all 5");
        c.due("without the conditions of those before", 5, () -> x.liking(0, 0));
    }

    private static void lawLines() {
        c.sentence("LINE { ; LINE }, at most 12");
        law(Halls.times(11, "like all 99"));
        law(Halls.times(12, "like all 99"));
        law(Halls.times(12, "like all 99") + "; ^like all 99");
        law(Halls.times(12, "like all 99") + ";^loathe");
        law(Halls.times(12, "like all 99") + ";^speed");
        law(Halls.times(12, "like all 99") + " ;  ^");
        law(Halls.times(12, "loathe 0 1 if a or b and c"));
        law(Halls.times(12, "loathe 0 1 if a or b and c") + ";^like 0 1");
        law("^;like 0 1");
        law("like 0 1;^;like 0 1");
        law("like 0 1;^");
        law("like 0 1 ^like 0 1");
        BeltHall x = Check.hall(Halls.SMALL);
        law(x, Halls.times(12, "like all 99"));
        c.due("all of 12", 1188, () -> x.liking(0, 0));
    }

    private static void whose() {
        c.sentence("W: all, or a number 0 to 8 (of a THING, whether there is one or not)");
        law("like all 1");
        law("like 0 1");
        law("loathe 8 1");
        law("like ^9 1");
        law("like ^100 1");
        law("like ^a 1");
        law("like ^any 1");
        law("like ^;");
        law("like^");
        BeltHall x = Check.law(Check.hall(Halls.visitor(3)), "like 8 7;like 0 1");
        for (int i = 0; i < 9; i++) {
            hall(x, "thing at " + i + " hold 0 room 1");
        }
        c.due("the ninth is there at last", 7, () -> x.liking(8, 0));
        c.due("the eighth", 0, () -> x.liking(7, 0));
    }

    private static void weights() {
        c.sentence("N 0 to 99");
        law("like 0 0");
        law("like 0 99;loathe 0 99");
        law("like 0 ^100");
        law("loathe 0 ^100");
        law("like 0 ^999 if a");
        law("like 0 ^all");
        law("like 0^");
        law("like 0 ^if a");
    }

    private static void sums() {
        c.sentence("SUM: PART { + PART }; PART: NUMBER | age | clean | group | cell | lonely | day");
        condition("age<clean and group>cell or lonely<day");
        condition("0<999");
        condition("age+^<1");
        condition("^+age<1");
        condition("age+^+1<1");
        condition("age ^clean<1");
        condition("age<1 ^<2");
        condition("age<1+^");
        condition("age<^");
        condition("age^");
        condition("age ^and a");
        condition("age^=1");
        condition("age<^=1");
        condition("age<^>1");
        condition("^<1");
        condition("^away<1");
        condition("^marks<1");
        condition("^thing<1");
        condition("^at<1");
        condition("^visitor<1");
        condition("^speed<1");
        condition("^cellar<1");
        condition("^like<1");
        condition("^loathe<1");
        condition("^if<1");
        condition("1<^not 2");
        condition("1+^not 2<3");
        condition("1<^(2)");
        condition("1+^(2)<3");
        condition("(1^)<2");
        condition("^hold<1");
        condition("^room<1");
        condition("1<^a");
        condition("a^+1<2");
        condition("a ^< 1");
        condition("(age^)<1");
        condition("^all<1");
    }

    private static void atoms() {
        c.sentence("C: ALL { or ALL }; ALL: ATOM { and ATOM }");
        condition("a");
        condition("f");
        condition("^g");
        condition("^ab");
        condition("^");
        condition("^and a");
        condition("^or a");
        condition("a and^");
        condition("a or^");
        condition("a and ^or b");
        condition("a or ^and b");
        condition("a ^b");
        condition("a ^not b");
        condition("a ^(b)");
        condition("(a) ^(b)");
        condition("(^)");
        condition("(a^");
        condition("(a ^;like 0 1");
        condition("(a)^)");
        condition("a^)");
        condition("not^");
        condition("not ^and a");
        condition("not ^;");
        condition("a ^if b");
        condition("^if a");
        law("like 0 1 ^a");
        law("like 0 1 ^(a)");
        law("like 0 1 ^when a");
    }

    private static void wordsGoOn() {
        c.sentence("Words are as long as a to z go on");
        hall("^speeds 3");
        hall("^spee d 3");
        hall("^thingat 5 hold 6 room 2");
        hall("speed3");
        hall("thing at5hold6room2;cellar0");
        hall("visitor age1clean2group3away4marks f");
        hall("visitor age1clean2group3away4^marksf");
        hall("^speedz 3");
        hall("^speeda 3");
        hall("^zspeed 3");
        hall("^aspeed 3");
        hall("^Speed 3");
        hall("speed^`3");
        hall("speed^{3");
        hall("speed^/3");
        hall("speed^:3");
        hall("speed 3^`");
        hall("speed 3^{");
        hall("speed 3^/");
        hall("speed 3^:");
        law("like0 1if a");
        law("^likeall 1");
        law("like all1");
        law("like 0 1 ^ifa");
        condition("not(a)and(b)or(c)");
        condition("a ^andb");
        condition("^nota");
        condition("age<1and a");
        condition("1<2or 2<1and a");
    }

    private static void blanks() {
        c.sentence("between all there may be blanks (32), also ahead and behind");
        hall("   speed   3   ;   speed 4   ");
        hall("  thing  at  5  hold  6  room  2  ");
        hall("  visitor  age  1  clean  2  group  3  away  4  marks  ab  ");
        law("  like  all  1  if  not  (  a  or  age  +  1  <  2  )  ;  loathe  8  2  ");
        int[] others = {0, 9, 10, 13, 31, 33, 127, 128, 160, 255};
        for (int sign : others) {
            hall("^" + (char) sign + "speed 3");
            hall("speed^" + (char) sign + "3");
            hall("speed 3^" + (char) sign);
            law("like 0 1^" + (char) sign);
            condition("^" + (char) sign + "a");
        }
        hall("speed 3 ^4");
        hall("^sp eed 3");
    }

    private static void noLine() {
        c.sentence("A text that is empty, or blanks alone, has no LINE");
        String[] texts = {"", " ", "     ", " ".repeat(399), " ".repeat(400)};
        for (String text : texts) {
            BeltHall x = Check.law(Check.hall(Halls.SMALL), "like all 1");
            hall(x, text);
            c.due("things", 2, () -> x.count(0));
            c.due("visitors", 3, () -> x.count(1));
            c.due("texts", 2, () -> x.count(2));
            law(x, text);
            c.due("no lines", 0, () -> x.count(3));
        }
    }

    private static void sixDeep() {
        c.sentence("( and not within one another at most 6 deep; the ( or not that is a 7th one deep");
        condition("(((((a)))))");
        condition("((((((a))))))");
        condition("((((((^(a)))))))");
        condition("((((((^not a))))))");
        condition("not not not not not not a");
        condition("not not not not not not ^not a");
        condition("not not not not not not ^(a)");
        condition("not(not(not(a)))");
        condition("not(not(not(^not a)))");
        condition("not(not(not(^(a))))");
        condition("(not(not(not a)))");
        condition("(not(not(not ^(a))))");
        condition("(((((not 1<2)))))");
        condition("((((((1<2))))))");
        condition("((((((^(1<2)))))))");
        condition("((((((a))))))and((((((b))))))or((((((c))))))");
        condition("((((((a))))))and((((((^(b)))))))");
        condition("not a and not b and not c and not d and not e and not f and not a");
        condition("not a or not b or not c or not d or not e or not f or not a or not b");
        condition("(a and(b and(c and(d and(e and(f and ^not a))))))");
        condition("(a and(b and(c and(d and(not f)or not a))))");
        condition("(a and(b and(c and(d and(e and(f or a)and not f)))))");
        condition("(((((not a and not b or not c)))))");
        condition("(((((not a and not ^not b)))))");
        condition("not(((((a)))))and not(((((b)))))or not(((((c)))))");
        condition("not(((((a)))))and not(((((^(b))))))");
        condition("((a)and(((((^(b)))))))");
        condition("(a and b and((((c)))))");
        condition("(a and b and(((((c))))))");
        condition("(a and b and(((((^(c)))))))");
        condition("(a or b or(((((^not c))))))");
        condition("(a and b or c and d or(((((^not c))))))");
        condition("not not not(a and not b and not c and((^(d))))");
        condition("a or b and(".repeat(6) + "a or b and c" + ")".repeat(6));
        condition("a or b and(".repeat(6) + "a or b and ^(c)" + ")".repeat(6));
        condition("a or b and not(".repeat(3) + "a or b and c" + ")".repeat(3));
        condition("((a)and((((b)))))");
        law("like 0 1 if((((((a))))));like 0 1 if((((((b))))))");
        law("like 0 1 if((((((a))))));like 0 1 if((((((^(b)))))))");
        law("like 0 1 if not not not not not not a;like 0 1 if not not not not not not b");
    }

    private static void deepest() {
        c.sentence("( and not within one another at most 6 deep: what they mean there");
        String[] hold = {"((((((a))))))", "not not not not not not a", "not(not(not(c)))", "not(((((c)))))",
            "(((((not c)))))", "(((((c or not d)))))"};
        String[] fail = {"((((((c))))))", "not not not not not not c", "not(not(not(a)))", "not(((((a)))))",
            "(((((not a)))))", "(((((c or not a)))))"};
        BeltHall x = Check.hall("thing at 0 hold 0 room 1;" + Halls.marked("ab"));
        for (String condition : hold) {
            Check.law(x, "like 0 1 if " + condition);
            c.due(condition, 1, () -> x.liking(0, 0));
        }
        for (String condition : fail) {
            Check.law(x, "like 0 1 if " + condition);
            c.due(condition, 0, () -> x.liking(0, 0));
        }
        Check.law(x, "like 0 1 if " + "c or a and(".repeat(6) + "c or a and b" + ")".repeat(6));
        c.due("or and and, six deep", 1, () -> x.liking(0, 0));
        Check.law(x, "like 0 1 if " + "c or a and(".repeat(6) + "c or a and d" + ")".repeat(6));
        c.due("or and and, six deep, and what fails", 0, () -> x.liking(0, 0));
    }

    // ---- Terms, part 1: LIKING

    private static void likes(String law, int due) {
        BeltHall x = Check.law(Check.hall("thing at 7 hold 0 room 1;thing at 8 hold 0 room 1",
            "visitor age 30 clean 5 group 4 away 0 marks af"), law);
        c.due("liking by '" + law + "'", due, () -> x.liking(0, 0));
    }

    private static void liking() {
        c.sentence("LIKING: the sum of N of all like LINES of that THING, or of all, that hold, "
            + "less that of all such loathe LINES (0 at least)");
        likes("like 0 1", 1);
        likes("like 1 1", 0);
        likes("like all 1;like 0 2;like 1 4", 3);
        likes("like all 9;loathe all 8", 1);
        likes("like all 9;loathe all 9", 0);
        likes("like all 9;loathe 0 10", 0);
        likes("loathe 0 99;like all 99;like 0 1", 1);
        likes("like 0 5;loathe 1 5", 5);
        likes("like 0 5;loathe 0 5 if b", 5);
        likes("loathe 0 99", 0);
        c.sentence("SUM < SUM | SUM > SUM");
        likes("like 0 1 if age<30", 0);
        likes("like 0 1 if age>30", 0);
        likes("like 0 1 if age<31", 1);
        likes("like 0 1 if age>29", 1);
        likes("like 0 1 if 30<age", 0);
        likes("like 0 1 if 29<age", 1);
        likes("like 0 1 if 999+999+999>999+999+998", 1);
        likes("like 0 1 if clean+group+cell<17", 1);
        likes("like 0 1 if clean+group+cell<16", 0);
        likes("like 0 1 if lonely<0 or day<0 or lonely>0 or day>0", 0);
        likes("like 0 1 if 5<6 and 3<4;like 0 2 if 6>5 and 4>3", 3);
        likes("like 0 1 if 5<6 and 4<3;like 0 2 if 5>6 or 4<4", 0);
        BeltHall told = Check.hall("speed 1;thing at 7 hold 99 room 1;thing at 9 hold 0 room 1",
            "visitor age 30 clean 5 group 4 away 0 marks af");
        told.days(8);
        told.show(0, false);
        told.days(3);
        String[] parts = {"age", "clean", "group", "cell", "lonely", "day"};
        int[] values = {30, 5, 4, 7, 8, 11};
        for (int i = 0; i < 6; i++) {
            String part = parts[i];
            Check.law(told, "like 0 1 if " + part + "<" + (values[i] + 1) + ";like 0 2 if "
                + part + ">" + (values[i] - 1)
                + ";like 0 4 if " + part + "<" + values[i] + " or " + part + ">" + values[i]);
            c.due(part, 3, () -> told.liking(0, 0));
        }
        c.sentence("a to f: the VISITOR has that MARK");
        likes("like 0 1 if a;like 0 2 if b;like 0 4 if c;like 0 8 if d;like 0 16 if e;like 0 32 if f", 33);
        c.sentence("Without a text: CLEAN");
        BeltHall x = Check.hall("thing at 7 hold 0 room 1", Halls.visitor(0), Halls.visitor(9));
        c.due("no law at all", -1, () -> x.count(3));
        c.due("clean 0", 0, () -> x.liking(0, 0));
        c.due("clean 9", 9, () -> x.liking(0, 1));
        law(x, "like^");
        c.due("a wrong one is none", 9, () -> x.liking(0, 1));
        law(x, "");
        c.due("an empty one is one", 0, () -> x.liking(0, 1));
    }

    // ---- Terms, part 1: the first wrong byte

    private static void wrongBytes() {
        c.sentence("the begin of the first thing that cannot stand there");
        hall("^!");
        hall("  ^?speed 3");
        hall("speed 3;^thin at 5;speed 0");
        hall("thing at 5 ^room 1 hold 2");
        hall("^at 5");
        hall("^like 0 1");
        hall("speed ^(");
        law("^speed 3");
        law("^all 3");
        law("^if a");
        c.sentence("a number of more digits, or out of its bounds, or that tells none that can be");
        hall("speed ^0003");
        hall("thing at 5 hold ^1000 room 1");
        hall("thing at 5 hold 1 room 1;thing at ^5 hold 1 room 1");
        hall("thing at 5 hold 1 room 1;cellar ^001");
        c.sentence("letters that are none such, or one twice: the begin of their word");
        hall(VISITOR + " marks ^abcdeg");
        hall(VISITOR + " marks ^abcdee");
        c.sentence("a word that is none");
        hall("^things at 5 hold 6 room 2");
        hall("thing ^ats 5 hold 6 room 2");
        law("like 0 1 ^iff a");
        c.sentence("of a LINE, a THING, a VISITOR too many, the first word");
        hall(Halls.times(14, "speed 1") + ";   ^speed 1");
        hall(Halls.withThings(9), "  ^thing at 99 hold 100 room 4");
        hall(Halls.withVisitors(10), "  ^visitor age 100");
        law(Halls.times(12, "like 0 1") + ";   ^like 99 1");
        c.sentence("or the text's length, if more must come");
        more(THING, 5, 8, 10, 15, 17, 22);
        more(VISITOR + " marks", 7, 11, 13, 19, 21, 27, 29, 34, 42);
        hall("speed^");
        hall("speed   ^");
        hall("cellar^");
        hall("speed 3" + " ".repeat(392) + ";^");
        hall("speed" + " ".repeat(395) + "^");
        law("like^");
        law("loathe 0 ^");
        law("like 0 1 if a and" + " ".repeat(383) + "^");
    }

    /** Behind each of these words more must come. */
    private static void more(String text, int... ends) {
        for (int end : ends) {
            hall(text.substring(0, end) + "^");
            hall(text.substring(0, end) + "  ^");
            hall("speed 3 ; " + text.substring(0, end) + "^");
            hall(text.substring(0, end) + " ^;" + text);
        }
    }

    private static void nothingStays() {
        c.sentence("Of a wrong text nothing stays");
        String[] texts = {"speed 9;cellar 0;" + THING + ";cellar 2;" + VISITOR + ";speed 0",
            THING + " ;", THING + ";" + THING,
            VISITOR + " marks", "cellar 0;cellar 1;cellar 2", Halls.times(14, "speed 7") + ";speed 7"};
        for (String text : texts) {
            BeltHall x = Check.law(Check.hall(Halls.SMALL), "like all 3 if a;like 1 4");
            x.days(2);
            x.hold(0, 2);
            BeltHall y = Check.law(Check.hall(Halls.SMALL), "like all 3 if a;like 1 4");
            y.days(2);
            y.hold(0, 2);
            Check.feed(x, text);
            c.illegal("hall of '" + text + "'", x::hall);
            c.due("all is as it was", Halls.told(y), () -> Halls.told(x));
        }
        String[] laws = {"like all 9;like", "like all 9 if (a", Halls.times(13, "like 0 9"),
            "like 0 9;loathe 9 1", ";"};
        for (String text : laws) {
            BeltHall x = Check.law(Check.hall(Halls.SMALL), "like all 3 if a;like 1 4;loathe 0 1 if b");
            BeltHall y = Check.law(Check.hall(Halls.SMALL), "like all 3 if a;like 1 4;loathe 0 1 if b");
            Check.feed(x, text);
            c.illegal("law of '" + text + "'", x::law);
            c.due("the one before stays", Halls.told(y), () -> Halls.told(x));
            BeltHall z = Check.hall(Halls.SMALL);
            Check.feed(z, text);
            c.illegal("law of '" + text + "'", z::law);
            c.due("without one before there is none", Halls.told(Check.hall(Halls.SMALL)), () -> Halls.told(z));
        }
    }

    // ---- promises 1 to 6

    private static void nothingStaysOpen() {
        c.sentence("Of a wrong text nothing stays (of THE LAW what was open, and what was read)");
        String[] wrong = {"((((((a^", "not not not not not not^", "a or b and(c or d and(a^", "((((((^(", "f;^"};
        for (String open : wrong) {
            BeltHall x = Check.hall("thing at 0 hold 0 room 1;" + Halls.marked("ab"));
            law(x, "like 0 1 if " + open);
            law(x, "like 0 1 if((((((a))))))");
            c.due("six deep", 1, () -> x.liking(0, 0));
            law(x, "like 0 1 if " + open);
            law(x, "like 0 1 if not not not not not not a");
            c.due("six deep", 1, () -> x.liking(0, 0));
            law(x, "like 0 1 if " + open);
            law(x, "like 0 1");
            c.due("without a condition", 1, () -> x.liking(0, 0));
        }
    }

    private static void promise1() {
        c.sentence("Promise 1: an empty hall");
        int[] counts = {0, 0, 0, -1, 0, 2, 0, 0, 0, 0, 0, 0};
        for (int i = 0; i < counts.length; i++) {
            int what = i;
            c.due("count(" + i + ")", counts[i], () -> new BeltHall().count(what));
        }
        c.due("no byte on the tape", 20, () -> new BeltHall().feed(0, 0, 0, 0, 0));
        c.due("the seed", 1, () -> new BeltHall().seed(0));
        c.due("fault", -1, () -> new BeltHall().fault());
        c.due("no act", false, () -> new BeltHall().undo());
        c.due("no image", false, () -> new BeltHall().back());
        c.due("no row", -1, () -> new BeltHall().log(0, 0));
        BeltHall x = new BeltHall();
        Check.hall(Halls.SMALL).days(9);
        c.due("one does not touch another", 0, () -> x.count(0) + x.count(4));
        c.sentence("used for at most 512 calls");
        BeltHall y = Check.hall(THING);
        for (int i = 22; i < 512; i++) {
            y.hold(0, i % 100);
        }
        c.due("the last call", 11, () -> y.thing(0, 1));
    }

    private static void promise2() {
        c.sentence("Promise 2: of each number the highest first");
        BeltHall x = new BeltHall();
        c.due("20", 20, () -> x.feed(0x73706565, 0x64203B00, 0, 0, 0));
        c.due("end", true, () -> x.end(6));
        c.due("26", 26, () -> x.feed(0x373B6365, 0x6C6C6172, 0x20303B20, 0x7FFF8000, -1));
        c.illegal("speed 7;cellar 0", x::hall);
        c.due("at the thing that is not there", 15, x::fault);
        x.feed(0x20207370, 0x65656420, 0x20202037, 0x20202020, 0x20202020);
        c.due("five numbers of four", 1, x::hall);
        c.due("speed", 7, () -> x.count(5));
        x.feed(0x80000000, 0, 0, 0, 0);
        c.illegal("a byte of 128", x::hall);
        c.due("is the first", 0, x::fault);
        x.feed(0x20FFFFFF, -1, -1, -1, -1);
        c.illegal("bytes of 255", x::hall);
        c.due("is the second", 1, x::fault);
        x.feed(0x20202020, 0x20202020, 0x20202020, 0x20202020, 0x20202001);
        c.illegal("the last byte", x::hall);
        c.due("is the 20th", 19, x::fault);
        c.sentence("Promise 2: NONE, and none come, if it would have more than 400");
        BeltHall y = new BeltHall();
        for (int n = 20; n <= 400; n += 20) {
            c.due("how many", n, () -> y.feed(0x20202020, 0x20202020, 0x20202020, 0x20202020, 0x20202020));
        }
        c.due("full", -1, () -> y.feed(0x21212121, 0, 0, 0, 0));
        c.due("none came", false, () -> y.end(401));
        c.due("none came", 1, y::hall);
        for (int kept = 399; kept >= 379; kept -= 1) {
            full(kept);
        }
    }

    private static void full(int kept) {
        BeltHall x = new BeltHall();
        for (int i = 0; i < 20; i++) {
            x.feed(0x20202020, 0x20202020, 0x20202020, 0x20202020, 0x20202020);
        }
        x.end(kept);
        c.due("20 behind " + kept, kept > 380 ? -1 : kept + 20, () -> x.feed(0x21202020, 0, 0, 0, 0));
        if (kept > 380) {
            c.due("none of the 20 came behind " + kept, false, () -> x.end(kept + 1));
            c.due("blanks alone", 1, x::hall);
        } else {
            c.due("all 20 came behind " + kept, true, () -> x.end(kept + 20));
            c.illegal("not blanks alone", x::hall);
            c.due("behind those that were there", kept, x::fault);
        }
    }

    private static void promise3() {
        c.sentence("Promise 3: its first n bytes alone: true; false, and nothing happens, if it has fewer, "
            + "or n is below 0");
        String[] texts = {"cellar 0", "speed 45", "speed 4567", "speed 4;cellar 9", "visitor age 123 clean 1"};
        int[] ends = {7, 7, 7, 7, 13};
        int[] faults = {7, -1, -1, -1, 13};
        for (int i = 0; i < texts.length; i++) {
            BeltHall y = Halls.withThings(1);
            Check.feed(y, texts[i]);
            int end = ends[i];
            c.due("end", true, () -> y.end(end));
            Check.outcome(y::hall);
            c.due("nothing is read behind " + end + " bytes of " + texts[i], faults[i], y::fault);
        }
        BeltHall x = new BeltHall();
        c.due("end(0) of an empty one", true, () -> x.end(0));
        c.due("end(1) of an empty one", false, () -> x.end(1));
        x.feed(0x73706565, 0x64203720, 0x21000000, 0, 0);
        c.due("as many as there are", true, () -> x.end(20));
        c.due("one more", false, () -> x.end(21));
        c.due("as many as an int tells", false, () -> x.end(Integer.MAX_VALUE));
        c.due("below 0", false, () -> x.end(-1));
        c.due("the least int", false, () -> x.end(Integer.MIN_VALUE));
        c.due("still 20", 20, () -> Halls.tape(x));
        c.due("the first 8", true, () -> x.end(8));
        c.due("not 9 any more", false, () -> x.end(9));
        c.due("the first of all", 1, x::hall);
        c.due("speed", 7, () -> x.count(5));
        x.feed(0x73706565, 0x64203800, 0, 0, 0);
        c.due("none", true, () -> x.end(0));
        c.due("an empty text", 2, x::hall);
        c.due("speed", 7, () -> x.count(5));
    }

    private static void promises4to6() {
        c.sentence("Promise 4: uses THE TAPE up: how many there are");
        BeltHall x = new BeltHall();
        c.due("the first", 1, x::hall);
        hall(x, "speed 5");
        c.due("used up", 0, () -> Halls.tape(x));
        hall(x, "speed^");
        c.due("used up by a wrong one", 0, () -> Halls.tape(x));
        c.due("the third", 3, x::hall);
        c.sentence("Promise 4: IllegalArgumentException told first; UnsupportedOperationException: there are 12");
        BeltHall y = new BeltHall();
        for (int i = 0; i < 12; i++) {
            y.hall();
        }
        hall(y, "^sped 1");
        Check.feed(y, "speed 1");
        c.unsupported("right", y::hall);
        c.due("used up by one too many", 0, () -> Halls.tape(y));
        c.due("its fault", -1, y::fault);
        c.sentence("Promise 5: uses THE TAPE up: how many LINES");
        law(x, "like 0 1");
        c.due("used up", 0, () -> Halls.tape(x));
        law(x, "like 0 1;loathe 0 1;like all 7 if a");
        law(x, "like 0 1;^");
        c.due("used up by a wrong one", 0, () -> Halls.tape(x));
        c.due("none", 0, x::law);
        c.sentence("Promise 6: the latest text that was read; NONE without one, and ahead of any");
        BeltHall z = new BeltHall();
        c.due("ahead of any", -1, z::fault);
        law(z, "like 0 ^100");
        hall(z, "speed ^0");
        law(z, "like 0 1");
        law(z, "like ^9 1");
        Check.feed(z, "?");
        c.illegal("not read as a text", z::send);
        c.due("still the one before", 5, z::fault);
        z.hall();
        c.due("none of an empty one", -1, z::fault);
    }

    public static void main(String[] args) {
        cells();
        speed();
        things();
        ownCell();
        ofThings();
        visitors();
        ofVisitors();
        marks();
        dayAtFirst();
        twelveTexts();
        hallLines();
        thereByThen();
        digits();
        lawInPlace();
        lawLines();
        whose();
        weights();
        sums();
        atoms();
        wordsGoOn();
        blanks();
        noLine();
        sixDeep();
        deepest();
        liking();
        wrongBytes();
        nothingStays();
        nothingStaysOpen();
        promise1();
        promise2();
        promise3();
        promises4to6();
        c.finish();
    }
}
