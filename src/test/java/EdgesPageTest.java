import java.util.function.ToLongFunction;

/** The edges of promises 1 to 5, a sentence each: a new object, letter, blank, fault, round. */
public final class EdgesPageTest {
    private static final Check check = new Check();
    private static final String SIX = "h1,s2,a3,b4,w5,h6;7";

    public static void main(String[] args) {
        noRound();
        howManyThePageHas();
        letterOutside();
        letterFull();
        letterOutsideAndFull();
        blankOfTheEmptyAndTheFull();
        blankLeavesTheRound();
        faultOfTheEmptyPage();
        faultAtEachPlace();
        faultIsTheFirst();
        faultBehindTheEnd();
        faultOfTheFullPage();
        faultChangesNothing();
        roundAtEachPlace();
        roundIsNone();
        pageIsEmptyThen();
        anotherIsGone();
        fewerThanThereWere();
        howOftenRead();
        check.end();
    }

    private static void noRound() {
        check.sentence("1 MilkRound(): No ROUND");
        MilkRound x = new MilkRound();
        for (int what = 0; what <= 11; what++) {
            check.due("count(" + what + ")", x.count(what), 0);
        }
        check.due("fault()", x.fault(), 0);
        check.due("blank()", x.blank(), 0);
        check.due("forget()", x.forget(), 0);
        for (int house = -1; house <= 6; house++) {
            unknown("about", house, new MilkRound().about(house, 0));
            unknown("as", house, new MilkRound().as(house, 0));
            unknown("letters", house, new MilkRound().letters(house, 0));
            unknown("leave", house, new MilkRound().leave(house, true));
            unknown("swap", house, new MilkRound().swap(house, house));
            unknown("known", house, new MilkRound().known(house, 1));
        }
        state("round()", MilkRound::round);
        state("day()", MilkRound::day);
        state("best(0)", y -> y.best(0));
        state("sets(0)", y -> y.sets(0));
        state("ask()", MilkRound::ask);
        state("weeks(1, 0, 0)", y -> y.weeks(1, 0, 0));
        state("image()", MilkRound::image);
        state("restore()", MilkRound::restore);
    }

    private static void unknown(String call, int house, int got) {
        check.due(call + " of " + house, got, MilkRound.UNKNOWN);
    }

    private static void state(String call, ToLongFunction<MilkRound> asks) {
        check.refused(call, MilkRound::new, asks, MilkRound.STATE);
    }

    private static void howManyThePageHas() {
        check.sentence("2 letter: A letter comes behind THE PAGE, told by its code: how many THE PAGE has");
        MilkRound x = new MilkRound();
        for (int many = 1; many <= 21; many++) {
            check.due("letter, the " + many + ".", x.letter(104), many);
            check.due("count(9)", x.count(9), many);
        }
        MilkRound y = new MilkRound();
        y.letter(104);
        y.letter(48);
        check.due("behind, not ahead: fault()", y.fault(), 2);
    }

    private static void letterOutside() {
        check.sentence("2 letter: OUTSIDE: code (32 to 126)");
        for (int code = 32; code <= 126; code++) {
            check.due("letter(" + code + ")", new MilkRound().letter(code), 1);
        }
        int[] outside = {31, 127, 0, -1, -104, 128, 255, 256 + 104, 65536 + 104, -65536 + 104};
        for (int code : outside) {
            outside(code);
        }
        for (int code : States.HARD) {
            outside(code);
        }
    }

    private static void outside(int code) {
        check.refused("letter(" + code + ") on an empty page", MilkRound::new, x -> x.letter(code), MilkRound.OUTSIDE);
        check.refused("letter(" + code + ")", States::rich, x -> x.letter(code), MilkRound.OUTSIDE);
    }

    private static void letterFull() {
        check.sentence("2 letter: FULL: above 21");
        check.due("the 21st", Check.page("h1,s2,a3,b4,w5,h6;78").letter(32), 21);
        for (int code : new int[] {32, 44, 104, 126}) {
            check.refused("the 22nd, " + code, States::bareAndFull, x -> x.letter(code), MilkRound.FULL);
            check.refused("the 22nd with a round, " + code, States::full, x -> x.letter(code), MilkRound.FULL);
        }
        MilkRound x = States.bareAndFull();
        x.letter(104);
        x.blank();
        check.due("the first one behind blank()", x.letter(104), 1);
    }

    private static void letterOutsideAndFull() {
        check.sentence("2 letter: of several refusals the first as told: OUTSIDE, then FULL");
        for (int code : new int[] {31, 127, Integer.MIN_VALUE, Integer.MAX_VALUE}) {
            check.refused("letter(" + code + ")", States::bareAndFull, x -> x.letter(code), MilkRound.OUTSIDE);
        }
    }

    private static void blankOfTheEmptyAndTheFull() {
        check.sentence("3 blank: THE PAGE is empty: how many letters it had");
        check.due("blank() of a new one", new MilkRound().blank(), 0);
        for (int many = 1; many <= 21; many++) {
            MilkRound x = Check.page("h1,s2,a3,b4,w5,h6;789".substring(0, many));
            check.due("blank() of " + many, x.blank(), many);
            check.due("count(9)", x.count(9), 0);
            check.due("fault()", x.fault(), 0);
            check.due("round()", x.round(), MilkRound.STATE);
            check.due("blank() again", x.blank(), 0);
            check.due("digest() is a new one's", x.digest(), new MilkRound().digest());
        }
    }

    private static void blankLeavesTheRound() {
        check.sentence("3 blank: THE PAGE is empty, and nothing else changes");
        MilkRound x = States.rich();
        x.blank();
        x.letter(104);
        x.letter(55);
        x.letter(44);
        States.due(check, "blank(), written again: ", x, States.rich());
        MilkRound read = Check.round("h1,h2;3");
        check.due("blank() behind round()", read.blank(), 0);
    }

    private static void faultOfTheEmptyPage() {
        check.sentence("4 fault: how many letters it has, if there is none");
        check.due("fault() of the empty page", new MilkRound().fault(), 0);
        for (int many = 1; many <= SIX.length(); many++) {
            check.due("fault() of " + SIX.substring(0, many), Check.page(SIX.substring(0, many)).fault(), many);
        }
        check.due("fault() behind round()", Check.round(SIX).fault(), 0);
    }

    /** What may stand at a place where the six houses' text has a mark: behind the second to the fifth house both. */
    private static String marks(int place) {
        return place == 2 ? "," : place == 17 ? ";" : ",;";
    }

    private static void faultAtEachPlace() {
        check.sentence("4 fault: The place (from 0) of the first letter of THE PAGE that no ROUND has there, behind those ahead of it");
        for (int place = 0; place < SIX.length(); place++) {
            String taken = place == 18 ? "123456789" : place % 3 == 0 ? "hsabw" : place % 3 == 1 ? "0123456789" : marks(place);
            for (int code = 32; code <= 126; code++) {
                MilkRound x = Check.page(SIX.substring(0, place) + (char) code);
                check.due("fault() with " + code + " at " + place, x.fault(), taken.indexOf(code) >= 0 ? place + 1 : place);
            }
        }
    }

    private static void faultIsTheFirst() {
        check.sentence("4 fault: the first letter that no ROUND has there");
        for (int place = 0; place < SIX.length(); place++) {
            String text = SIX.substring(0, place) + "~".repeat(21 - place);
            check.due("fault() of " + text, Check.page(text).fault(), place);
        }
        check.due("behind a fault all may be right", Check.page("~" + SIX).fault(), 0);
    }

    private static void faultBehindTheEnd() {
        check.sentence("4 fault: behind KEEP no ROUND has a letter");
        for (int houses = 2; houses <= 6; houses++) {
            String text = SIX.substring(0, 3 * houses - 1) + ";1";
            for (int code = 32; code <= 126; code++) {
                MilkRound x = Check.page(text + (char) code);
                check.due("fault() of " + text + (char) code, x.fault(), text.length());
                check.due("round() of " + text + (char) code, x.round(), MilkRound.STATE);
            }
            check.due("fault() of " + text + ",h", Check.page(text + ",h").fault(), text.length());
        }
    }

    private static void faultOfTheFullPage() {
        check.sentence("4 fault: of the full page");
        check.due("a round and two more", States.bareAndFull().fault(), 19);
        check.due("all of them blanks", Check.page(" ".repeat(21)).fault(), 0);
        check.due("two houses and a rest", Check.page("h0,h0;1" + "0".repeat(14)).fault(), 7);
        check.due("the last ';' with no KEEP behind", Check.page("h0,h0,h0,h0,h0,h0;;;;").fault(), 18);
    }

    private static void faultChangesNothing() {
        check.sentence("4 fault: it only tells");
        check.refused("fault()", States::rich, MilkRound::fault, 3);
        check.refused("fault()", States::full, MilkRound::fault, 19);
    }

    private static void roundAtEachPlace() {
        check.sentence("5 round: THE PAGE is read as THE ROUND: how many HOUSES");
        for (int houses = 2; houses <= 6; houses++) {
            MilkRound x = Check.page(SIX.substring(0, 3 * houses - 1) + ";" + (houses + 3));
            check.due("round()", x.round(), houses);
            check.due("count(0)", x.count(0), houses);
            check.due("count(1)", x.count(1), houses + 3);
            int[] kinds = {0, 1, 2, 3, 4, 0};
            for (int house = 0; house < houses; house++) {
                check.due("about(" + house + ", 0)", x.about(house, 0), kinds[house]);
                check.due("about(" + house + ", 1)", x.about(house, 1), house + 1);
            }
            check.due("about(behind the last, 0)", x.about(houses, 0), MilkRound.UNKNOWN);
        }
    }

    private static void none(String text) {
        check.refused("round() of '" + text + "'", () -> Check.page(text), MilkRound::round, MilkRound.STATE);
        check.refused("round() of '" + text + "' behind another", () -> {
            MilkRound x = States.rich();
            x.blank();
            Check.write(x, text);
            return x;
        }, MilkRound::round, MilkRound.STATE);
    }

    private static void roundIsNone() {
        check.sentence("5 round: STATE: it is none");
        for (int many = 0; many < SIX.length(); many++) {
            none(SIX.substring(0, many));
        }
        for (int place = 0; place < SIX.length(); place++) {
            none(SIX.substring(0, place) + "~" + SIX.substring(place + 1));
        }
        String[] others = {
            "h0;1", "h0,h0;0", "h0,h0;", "h0,h0", "h0,h0,;1", ";1", "h0,h0;1;", "h0,h0;1;1", "h0,h0;12", "h0;h0;1", "h0,h0,1",
            " h0,h0;1", "h0,h0;1 ", "H0,h0;1", "h,h0;1", "h00,h0;1", "h0,h0:1", "h0.h0;1", "h1,s2,a3,b4,w5,h6,h7;",
        };
        for (String text : others) {
            none(text);
        }
        check.refused("round() of the full page", States::full, MilkRound::round, MilkRound.STATE);
    }

    private static void pageIsEmptyThen() {
        check.sentence("5 round: THE PAGE is empty then");
        MilkRound x = Check.page(SIX);
        x.round();
        check.due("count(9)", x.count(9), 0);
        check.due("fault()", x.fault(), 0);
        check.due("round() again", x.round(), MilkRound.STATE);
        check.due("the first letter then", x.letter(104), 1);
    }

    private static void anotherIsGone() {
        check.sentence("5 round: another one is gone, with all that was");
        MilkRound x = States.rich();
        x.blank();
        Check.write(x, "s1,b9,a0;8");
        check.due("round()", x.round(), 3);
        MilkRound fresh = Check.round("s1,b9,a0;8");
        for (int what = 0; what <= 9; what++) {
            check.due("count(" + what + ")", x.count(what), fresh.count(what));
        }
        for (int house = 0; house < 3; house++) {
            for (int what = 0; what <= 8; what++) {
                check.due("about(" + house + ", " + what + ")", x.about(house, what), fresh.about(house, what));
            }
        }
        check.due("sets(0)", x.sets(0), 8);
        check.due("sets(1)", x.sets(1), 0);
        check.due("ask()", x.ask(), fresh.ask());
        check.due("forget()", x.forget(), 0);
        check.due("restore()", x.restore(), MilkRound.STATE);
        check.due("days begin again: image()", x.image(), 0);
    }

    private static void fewerThanThereWere() {
        check.sentence("5 round: of another one with more HOUSES nothing is left");
        MilkRound x = States.full();
        x.blank();
        Check.write(x, "h0,h0;1");
        check.due("round()", x.round(), 2);
        for (int house = 2; house <= 6; house++) {
            check.due("about of " + house, x.about(house, 1), MilkRound.UNKNOWN);
            check.due("as of " + house, x.as(house, 0), MilkRound.UNKNOWN);
            check.due("leave of " + house, x.leave(house, true), MilkRound.UNKNOWN);
            check.due("known of " + house, x.known(house, 1), MilkRound.UNKNOWN);
            check.due("swap of " + house, x.swap(0, house), MilkRound.UNKNOWN);
        }
        check.due("minutes of all the way", x.count(7), 2);
        check.due("sour", x.count(5), 0);
        check.due("sets(0)", x.sets(0), 4);
        check.due("known", x.count(8), 0);
        x.blank();
        Check.write(x, "h0,h0,h0,h0,h0,h0;1");
        check.due("round() with more again", x.round(), 6);
        for (int house = 0; house < 6; house++) {
            check.due("letters of " + house, x.about(house, 1), 0);
            check.due("place of " + house, x.about(house, 4), house);
            check.due("left out at " + house, x.about(house, 2), 0);
        }
    }

    private static void howOftenRead() {
        check.sentence("5 round: a refused one is not read");
        MilkRound x = new MilkRound();
        for (int read = 1; read <= 30; read++) {
            x.round();
            Check.write(x, "h0,h0;");
            x.round();
            x.letter(49);
            check.due("round()", x.round(), 2);
            check.due("count(10)", x.count(10), read);
        }
    }
}
