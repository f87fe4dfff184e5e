/** Promises 1 to 5: a new object, letter, blank, fault, round. */
public final class PageTest {
    private static final Check check = new Check();
    private static final String SIX = "w9,w9,w9,w9,w9,w9";

    public static void main(String[] args) {
        newObject();
        letter();
        blank();
        fault();
        roundIsRead();
        roundIsRefused();
        anotherRound();
        check.end();
    }

    private static void newObject() {
        MilkRound x = new MilkRound();
        for (int what = 0; what <= 11; what++) {
            check.due("new: count(" + what + ")", x.count(what), 0);
        }
        check.due("new: about(0, 0)", x.about(0, 0), MilkRound.UNKNOWN);
        check.due("new: as(0, 0)", x.as(0, 0), MilkRound.UNKNOWN);
        check.due("new: letters(0, 0)", x.letters(0, 0), MilkRound.UNKNOWN);
        check.due("new: leave(0, true)", x.leave(0, true), MilkRound.UNKNOWN);
        check.due("new: swap(0, 0)", x.swap(0, 0), MilkRound.UNKNOWN);
        check.due("new: known(0, 1)", x.known(0, 1), MilkRound.UNKNOWN);
        check.due("new: day()", x.day(), MilkRound.STATE);
        check.due("new: best(0)", x.best(0), MilkRound.STATE);
        check.due("new: sets(0)", x.sets(0), MilkRound.STATE);
        check.due("new: ask()", x.ask(), MilkRound.STATE);
        check.due("new: weeks(1, 0, 0)", x.weeks(1, 0, 0), MilkRound.STATE);
        check.due("new: image()", x.image(), MilkRound.STATE);
        check.due("new: restore()", x.restore(), MilkRound.STATE);
        check.due("new: round()", x.round(), MilkRound.STATE);
        check.due("new: forget()", x.forget(), 0);
        check.due("new: blank()", x.blank(), 0);
        check.due("new: fault()", x.fault(), 0);
        check.due("new: count(11) behind refusals", x.count(11), 0);
    }

    private static void letter() {
        MilkRound x = new MilkRound();
        check.due("letter(31)", x.letter(31), MilkRound.OUTSIDE);
        check.due("letter(127)", x.letter(127), MilkRound.OUTSIDE);
        check.due("letter(-1)", x.letter(-1), MilkRound.OUTSIDE);
        check.due("letter(65536 + 104)", x.letter(65536 + 104), MilkRound.OUTSIDE);
        check.due("count(9) behind refusals", x.count(9), 0);
        check.due("letter(32)", x.letter(32), 1);
        check.due("letter(126)", x.letter(126), 2);
        for (int many = 3; many <= 21; many++) {
            check.due("letter " + many, x.letter(104), many);
        }
        check.due("letter 22", x.letter(104), MilkRound.FULL);
        check.due("letter 22, outside too", x.letter(31), MilkRound.OUTSIDE);
        check.due("count(9), full", x.count(9), 21);
    }

    private static void blank() {
        MilkRound x = Check.page("h0,h");
        check.due("blank()", x.blank(), 4);
        check.due("blank() again", x.blank(), 0);
        check.due("letter behind blank()", x.letter(104), 1);
        check.due("fault() behind blank()", x.fault(), 1);
        MilkRound withRound = Check.round("h0,h0;1");
        withRound.blank();
        check.due("a round stays at blank()", withRound.count(0), 2);
    }

    private static void fault() {
        fault("h", 1);
        fault("h0", 2);
        fault("h0,", 3);
        fault("h0,s9", 5);
        fault("h0,s1,a2,b3,w4;1", 16);
        fault("h0,h0;9", 7);
        fault("h0,h0,", 6);
        fault("H0", 0);
        fault("0", 0);
        fault(" h0", 0);
        fault("x0;;;", 0);
        fault("hh", 1);
        fault("h/", 1);
        fault("h:", 1);
        fault("h;", 1);
        fault("h0;", 2);
        fault("h0.h0", 2);
        fault("h00", 2);
        fault("h0,,", 3);
        fault("h0,5", 3);
        fault("h0,h0;0", 6);
        fault("h0,h0;:", 6);
        fault("h0,h0;h", 6);
        fault("h0,h0;;", 6);
        fault("h0,h0;99", 7);
        fault("h0,h0;9,", 7);
        fault("h0,h0;9;9", 7);
        fault(SIX, 17);
        fault(SIX + ",", 17);
        fault(SIX + ";", 18);
        fault(SIX + ";9", 19);
        fault(SIX + ";999", 19);
        fault("h0,h0,h0,h0,h0,", 15);
    }

    private static void fault(String text, int want) {
        MilkRound x = Check.page(text);
        check.due("fault() of " + text, x.fault(), want);
        check.due("letters behind fault() of " + text, x.count(9), text.length());
    }

    private static void roundIsRead() {
        for (int houses = 2; houses <= 6; houses++) {
            MilkRound x = Check.page(SIX.substring(0, 3 * houses - 1) + ";" + houses);
            check.due("round()", x.round(), houses);
            check.due("count(0)", x.count(0), houses);
            check.due("count(1)", x.count(1), houses);
            check.due("count(9)", x.count(9), 0);
            check.due("count(10)", x.count(10), 1);
            check.due("about(last)", x.about(houses - 1, 1), 9);
            check.due("about(behind last)", x.about(houses, 1), MilkRound.UNKNOWN);
        }
        MilkRound x = Check.round("h0,s1,a2,b3,w4;1");
        for (int house = 0; house < 5; house++) {
            check.due("kind of " + house, x.about(house, 0), house);
            check.due("letters of " + house, x.about(house, 1), house);
            check.due("left out at " + house, x.about(house, 2), 0);
            check.due("place of " + house, x.about(house, 4), house);
        }
    }

    private static void roundIsRefused() {
        String[] none = {"", "h", "h0", "h0,", "h0;1", "h0,h0", "h0,h0;", "h0,h0;0", "h0,h0;11", "x0,h0;1", SIX + ",w9"};
        for (String text : none) {
            MilkRound x = Check.round("s3,b4;5");
            x.day();
            Check.write(x, text);
            check.due("round() of " + text, x.round(), MilkRound.STATE);
            check.due("count(9) of " + text, x.count(9), text.length());
            check.due("count(10) of " + text, x.count(10), 1);
            check.due("count(0) of " + text, x.count(0), 2);
            check.due("count(2) of " + text, x.count(2), 1);
        }
    }

    private static void anotherRound() {
        MilkRound x = Check.round("h0,w9,h3;1");
        x.leave(0, true);
        x.swap(0, 2);
        x.known(0, 5);
        x.day();
        x.image();
        Check.write(x, "h4,s4;9");
        check.due("second round()", x.round(), 2);
        check.due("days are gone", x.count(2), 0);
        check.due("sour ones are gone", x.count(3), 0);
        check.due("who heard it is gone", x.count(4), 0);
        check.due("what was known is gone", x.count(8), 0);
        check.due("left out is gone", x.about(0, 2), 0);
        check.due("the order is gone", x.about(0, 4), 0);
        check.due("letters are new", x.about(0, 1), 4);
        check.due("the image is of another round", x.restore(), MilkRound.STATE);
        check.due("two rounds were read", x.count(10), 2);
    }
}
