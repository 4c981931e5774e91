/** Promises 28 to 30: what is found out by rings. */
public final class RingsTest {
    private static final Check c = new Check();
    private static final String VISITORS = "visitor age 1 clean 1 group 0 away 0 marks ab;"
        + "visitor age 1 clean 1 group 0 away 0 marks abc;visitor age 1 clean 1 group 0 away 0";

    private static void wants(BeltHall x, int many, int which, int... told) {
        Check.feed(x, told);
        c.due("wants(false)", many, () -> x.wants(false));
        c.due("the tape is used up", false, () -> x.end(1));
        Check.feed(x, told);
        c.due("wants(true)", which, () -> x.wants(true));
    }

    private static void wrong(BeltHall x, String name, int... told) {
        Check.feed(x, told);
        c.illegal("wants of " + name, () -> x.wants(false));
        c.due("used up by " + name, false, () -> x.end(1));
        Check.feed(x, told);
        c.illegal("send of " + name, x::send);
        c.due("used up by " + name, false, () -> x.end(1));
    }

    private static void wanting() {
        BeltHall x = Check.hall(VISITORS);
        wants(x, 64, 0);
        wants(x, 4, 0, 0, 1);
        wants(x, 4, 4, 0, 0, 1, 1);
        wants(x, 0, -1, 0, 1, 1, 0);
        wants(x, 0, -1, 0, 1, 0, 0);
        wants(x, 0, -1, 2, 0, 2, 1);
        wants(x, 63, 1, 2, 0);
        wants(x, 1, 0, 2, 1);
        wants(x, 3, 1, 2, 0, 0, 1);
        BeltHall y = Check.hall("visitor age 1 clean 1 group 0 away 0 marks abc;"
            + "visitor age 1 clean 1 group 0 away 0 marks a;visitor age 1 clean 1 group 0 away 0 marks b");
        wants(y, 5, 4, 0, 1, 1, 0, 2, 0);
        int[] most = new int[40];
        for (int i = 0; i < 40; i += 2) {
            most[i] = 1;
        }
        wants(x, 56, 8, most);
        wrong(x, "42 bytes", new int[42]);
        wrong(x, "an odd number", 0, 1, 0);
        wrong(x, "a visitor who is not there", 3, 1);
        wrong(x, "a visitor of 255", 255, 1);
        wrong(x, "a ring of 2", 0, 2);
        wrong(x, "a ring of 255", 0, 255);
        BeltHall none = new BeltHall();
        wants(none, 64, 0);
        wrong(none, "nobody", 0, 0);
        c.due("the fault is not told by this", -1, x::fault);
    }

    private static void sending() {
        BeltHall x = Check.hall(VISITORS);
        // Of all 64 sets 4 ring for 0, 8 for 1, one for 2.
        c.due("who parts best", 1, x::send);
        Check.feed(x, 0, 1);
        c.due("none parts but 2", 2, x::send);
        Check.feed(x, 2, 1);
        c.due("one set left", -1, x::send);
        Check.feed(x, 0, 1, 0, 0);
        c.due("no set left", -1, x::send);
        Check.feed(x, 1, 0);
        c.due("of several the least", 0, x::send);
        c.due("without visitors", -1, () -> new BeltHall().send());
        BeltHall y = Check.hall("visitor age 1 clean 1 group 0 away 0 marks abcdef");
        c.due("one who parts none is still one", 0, y::send);
        BeltHall z = Check.hall("visitor age 1 clean 1 group 0 away 0 marks e");
        Check.feed(z, 0, 1);
        c.due("two sets", 0, z::send);
    }

    private static void about() {
        BeltHall x = Check.law(Check.hall("thing at 0 hold 0 room 1;thing at 1 hold 4 room 1;thing at 2 hold 0 room 1;"
            + "cellar 2", VISITORS), "like 0 5 if a or b;like 1 4 if c;like all 1 if d;like 2 9");
        // Thing 0 rings for a, b or d; thing 1 for c; thing 2 is in the cellar.
        c.due("none rang", 4, () -> x.about(0, 0, 0));
        c.due("in all", 0, () -> x.about(0, 0, 1));
        c.due("in any", 48, () -> x.about(0, 0, 2));
        c.due("thing 1 alone", 4, () -> x.about(1, 2, 0));
        c.due("in all", 4, () -> x.about(1, 2, 1));
        c.due("in any", 52, () -> x.about(1, 2, 2));
        c.due("both", 28, () -> x.about(1, 3, 0));
        c.due("in all", 4, () -> x.about(1, 3, 1));
        c.due("the cellar cannot ring", 0, () -> x.about(0, 4, 0));
        c.due("in all of none", 0, () -> x.about(0, 4, 1));
        c.due("in any of none", 0, () -> x.about(0, 4, 2));
        c.due("bits of none count for nothing", 4, () -> x.about(0, 8 + 2 + Integer.MIN_VALUE, 0));
        c.due("his marks stay", 3, () -> x.visitor(0, 4));
        x.hold(1, 5);
        c.due("as it is now", 0, () -> x.about(1, 2, 0));
        x.hold(1, 4);
        c.due("as it is now again", 4, () -> x.about(1, 2, 0));
        c.outOfBounds("about(3, 0, 3)", () -> x.about(3, 0, 3));
        c.noSuch("about(0, 0, 3)", () -> x.about(0, 0, 3));
        c.noSuch("about(0, 0, -1)", () -> x.about(0, 0, -1));
    }

    public static void main(String[] args) {
        wanting();
        sending();
        about();
        c.finish();
    }
}
