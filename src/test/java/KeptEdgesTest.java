/** The boundary cases of acts undone, of THE IMAGE and of counts: promises 40 to 43, and their sentences in Terms. */
public final class KeptEdgesTest {
    private static final Check c = new Check();

    private static void twelve() {
        c.sentence("UNDONE: the latest ACT not undone yet (12 are remembered)");
        for (int n = 11; n <= 14; n++) {
            BeltHall x = Check.hall(Halls.thing(0, 0, 1));
            for (int i = 1; i <= n; i++) {
                x.hold(0, i);
            }
            int kept = Math.min(n, 12);
            c.due("remembered of " + n, kept, () -> x.count(11));
            for (int i = 1; i <= kept; i++) {
                int due = n - i;
                int left = kept - i;
                c.due("undo " + i + " of " + n, true, x::undo);
                c.due("as ahead of it", due, () -> x.thing(0, 1));
                c.due("so many are left", left, () -> x.count(11));
            }
            c.due("none more of " + n, false, x::undo);
            c.due("nothing happens", n - kept, () -> x.thing(0, 1));
        }
        BeltHall x = Check.hall(Halls.thing(0, 0, 1));
        for (int i = 1; i <= 40; i++) {
            x.hold(0, i);
        }
        for (int i = 0; i < 5; i++) {
            x.undo();
        }
        c.due("seven", 7, () -> x.count(11));
        for (int i = 51; i <= 56; i++) {
            x.hold(0, i);
        }
        c.due("twelve again", 12, () -> x.count(11));
        for (int i = 0; i < 6; i++) {
            x.undo();
        }
        c.due("the one before those undone", 35, () -> x.thing(0, 1));
        for (int i = 0; i < 6; i++) {
            x.undo();
        }
        c.due("the earliest", 29, () -> x.thing(0, 1));
        c.due("none", false, x::undo);
    }

    private static void eachAct() {
        c.sentence("UNDONE: all is as ahead of it (DAYS of one call are one)");
        BeltHall x = acted(8);
        for (int i = 7; i >= 0; i--) {
            int act = i;
            c.due("undo of act " + i, true, x::undo);
            c.due("as ahead of act " + i, Halls.told(acted(i)), () -> Halls.told(x));
        }
        c.due("none", false, x::undo);
    }

    /** So many of eight acts, with days between them. */
    private static BeltHall acted(int acts) {
        BeltHall x = Check.hall(Halls.SMALL);
        for (int i = 0; i < acts; i++) {
            switch (i) {
                case 0: x.days(7); break;
                case 1: x.move(0, 19); break;
                case 2: x.hold(1, 2); break;
                case 3: x.show(0, false); break;
                case 4: x.clean(2, 9); break;
                case 5: x.mark(1, 4, true); break;
                case 6: x.trade(0, 2); break;
                default: x.days(50);
            }
        }
        return x;
    }

    private static void seedToo() {
        c.sentence("the SEED, too, also where it was told since; but for the TAPE, fault(), THE IMAGE");
        BeltHall x = Check.hall(Halls.SMALL);
        x.seed(41);
        x.hold(0, 1);
        x.seed(42);
        x.hold(0, 2);
        x.seed(43);
        x.undo();
        c.due("as ahead of the second", 42, () -> Halls.seedOf(x));
        x.undo();
        c.due("as ahead of the first", 41, () -> Halls.seedOf(x));
        x.seed(44);
        c.due("none to undo", false, x::undo);
        c.due("so it stays", 44, () -> Halls.seedOf(x));
        x.hold(0, 3);
        x.image();
        x.hold(0, 4);
        Check.feed(x, "speed 99");
        Check.outcome(x::hall);
        Check.feed(x, "speed 9");
        x.undo();
        x.undo();
        c.due("the fault stays", 6, x::fault);
        c.due("the tape stays", 7, () -> Halls.tape(x));
        c.due("the image stays", true, x::back);
        c.due("as it was kept", 3, () -> x.thing(0, 1));
        x.hall();
        c.due("the tape's text", 9, () -> x.count(5));
    }

    private static void textsForget() {
        c.sentence("A text, going back: none are remembered");
        BeltHall x = Check.hall(Halls.SMALL);
        x.hold(0, 9);
        x.hall();
        c.due("an empty text of the hall", false, x::undo);
        c.due("what was told stays", 9, () -> x.thing(0, 1));
        x.hold(0, 8);
        x.law();
        c.due("an empty law", false, x::undo);
        x.hold(0, 7);
        x.image();
        x.hold(0, 6);
        c.due("an image forgets none", 2, () -> x.count(11));
        x.back();
        c.due("going back", 0, () -> x.count(11));
        c.due("none", false, x::undo);
        x.hold(0, 5);
        Check.feed(x, "x");
        Check.outcome(x::hall);
        Check.feed(x, "x");
        Check.outcome(x::law);
        c.due("a wrong text is none", true, x::undo);
        BeltHall y = Check.hall(Halls.SMALL);
        y.hold(0, 9);
        c.due("without an image one does not go back", false, y::back);
        c.due("so the act is remembered", true, y::undo);
        BeltHall z = new BeltHall();
        for (int i = 0; i < 12; i++) {
            z.hall();
        }
        z.days(1);
        Check.outcome(z::hall);
        c.due("a text that is refused forgets none", true, z::undo);
    }

    private static void image() {
        c.sentence("THE IMAGE (one) of all may be kept, and gone back to (but for the TAPE, fault() and THE IMAGE "
            + "itself)");
        BeltHall x = Check.law(Check.hall(Halls.SMALL), "like all 5 if a;like 1 7");
        x.days(9);
        x.show(0, false);
        x.image();
        BeltHall same = Check.law(Check.hall(Halls.SMALL), "like all 5 if a;like 1 7");
        same.days(9);
        same.show(0, false);
        Check.law(same, "like all 5 if a;like 1 7");
        x.days(50);
        Check.law(x, Halls.times(12, "loathe all 9 if f or not a"));
        Check.feed(x, "speed 9;thing at 8 hold 0 room 1;" + Halls.visitor(1) + ";cellar 0");
        x.hall();
        x.trade(0, 1);
        x.seed(0);
        Check.feed(x, "speed 99");
        Check.outcome(x::hall);
        Check.feed(x, "speed 9");
        for (int i = 0; i < 3; i++) {
            c.due("back", true, x::back);
            c.due("as it was", Halls.told(same), () -> Halls.told(x));
            c.due("the fault stays", 6, x::fault);
            c.due("the tape stays", 7, () -> Halls.tape(x));
            x.days(3);
            x.hold(0, 77);
        }
        c.sentence("THE IMAGE (one)");
        x.image();
        x.hold(0, 78);
        x.back();
        c.due("the latest", 77, () -> x.thing(0, 1));
        x.back();
        c.due("not the one before", 77, () -> x.thing(0, 1));
        c.sentence("Promise 42: false, and nothing happens, if none was kept");
        BeltHall y = Check.hall(Halls.SMALL);
        y.hold(0, 7);
        BeltHall unlike = Check.hall(Halls.SMALL);
        unlike.hold(0, 7);
        c.due("back", false, y::back);
        c.due("nothing happens", Halls.allOf(unlike), () -> Halls.allOf(y));
        c.sentence("THE IMAGE of an empty hall without a law");
        BeltHall z = new BeltHall();
        z.image();
        Check.feed(z, Halls.SMALL);
        z.hall();
        Check.law(z, "like all 1");
        z.days(2);
        z.seed(9);
        c.due("back", true, z::back);
        c.due("as new", Halls.told(new BeltHall()), () -> Halls.told(z));
        Check.feed(z, Halls.SMALL);
        z.hall();
        c.due("clean, without a law", 5, () -> z.liking(0, 0));
        c.due("shown, as if it had never been in the cellar", 1, () -> z.thing(0, 3));
        c.due("no marks are left of another one", 0, () -> z.visitor(1, 4));
    }

    private static void imageOfFewer() {
        c.sentence("THE IMAGE of all: what came since is not there any more");
        StringBuilder seven = new StringBuilder(Halls.visitor(5));
        for (int i = 0; i < 7; i++) {
            seven.append(";").append(Halls.thing(i, 0, 3));
        }
        String[] small = {"", "speed 3", Halls.SMALL, Halls.visitor(5), Halls.thing(7, 0, 1), seven.toString(),
            Halls.SMALL + ";" + Halls.SMALL.replace("at 0", "at 4").replace("at 19", "at 5")};
        for (String text : small) {
            BeltHall x = Check.hall(text);
            x.image();
            for (int i = x.count(0); i < 9; i++) {
                Check.feed(x, Halls.thing(8 + i, 0, 3));
                x.hall();
            }
            Check.feed(x, Halls.times(10 - x.count(1), Halls.visitor(9)));
            x.hall();
            x.law();
            Check.law(x, "like all 50;like 0 40;like 8 30;like 1 20 if not f");
            x.days(5);
            Halls.asked(x);
            x.back();
            c.due("what is told as of '" + text + "'", Halls.told(Check.hall(text)), () -> Halls.told(x));
            c.due("what could be as of '" + text + "'", Halls.asked(Check.hall(text)), () -> Halls.asked(x));
        }
    }

    private static void counts() {
        c.sentence("Promise 43: NONE for another what (0 to 11)");
        BeltHall x = Check.law(Check.hall(Halls.SMALL, ""), "like all 9;loathe 1 1;like 8 1");
        x.days(2);
        x.show(0, false);
        x.days(3);
        int[] due = {2, 3, 2, 3, 5, 3, 2, 0, 4, x.count(9), x.count(9), 3};
        for (int i = 0; i < due.length; i++) {
            int what = i;
            c.due("count(" + i + ")", due[i], () -> x.count(what));
        }
        int[] others = {12, 13, -1, -2, Integer.MAX_VALUE, Integer.MIN_VALUE};
        for (int what : others) {
            c.due("count(" + what + ")", -1, () -> x.count(what));
        }
        c.sentence("Promise 43: 3 LINES of THE LAW (NONE without one)");
        c.due("without one", -1, () -> Check.hall(Halls.SMALL).count(3));
        c.due("of an empty one", 0, () -> Check.law(new BeltHall(), " ").count(3));
        c.sentence("Promise 43: 6 THINGS that are SHOWN, as bits, 7 LONELY of all together, 8 ROOM of all together");
        BeltHall nine = Halls.withThings(9);
        nine.days(50);
        nine.days(50);
        c.due("all shown", 511, () -> nine.count(6));
        c.due("lonely of all", 891, () -> nine.count(7));
        c.due("room of all", 9, () -> nine.count(8));
        nine.show(8, false);
        nine.show(0, false);
        c.due("not the first, not the last", 254, () -> nine.count(6));
        c.due("lonely of those in the cellar, too", 891, () -> nine.count(7));
        c.due("room of those in the cellar, too", 9, () -> nine.count(8));
        c.sentence("Promise 43: 9 how many were had in all, 10 rows of THE LOG (60 at most), 11 acts that can be "
            + "UNDONE");
        BeltHall y = Check.hall(Halls.thing(0, 0, 3) + ";" + Halls.times(3, Halls.visitor(1)));
        y.days(20);
        c.due("60", 60, () -> y.count(9));
        c.due("60 rows", 60, () -> y.count(10));
        y.days(1);
        c.due("63", 63, () -> y.count(9));
        c.due("60 rows", 60, () -> y.count(10));
        c.due("two acts", 2, () -> y.count(11));
        y.undo();
        c.due("60 again", 60, () -> y.count(9));
        c.due("one act", 1, () -> y.count(11));
        c.due("the rows as they were", 0, () -> y.log(59, 0));
        y.undo();
        c.due("none", 0, () -> y.count(9) + y.count(10) + y.count(11));
    }

    public static void main(String[] args) {
        twelve();
        eachAct();
        seedToo();
        textsForget();
        image();
        imageOfFewer();
        counts();
        c.finish();
    }
}
