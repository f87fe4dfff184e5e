import java.util.function.ToLongFunction;

/** The edges of promises 6 to 11, a sentence each: about, as, letters, leave, swap, day. */
public final class EdgesHousesTest {
    private static final Check check = new Check();
    private static final String SIX = "h1,s2,a3,b4,w5,h6";

    /** A call of a house; what else it takes is as told. */
    private interface OfHouse {
        long ask(MilkRound x, int house);
    }

    public static void main(String[] args) {
        aboutEachWhat();
        aboutUnknown();
        aboutOutside();
        aboutBoth();
        aboutChangesNothing();
        asEachKind();
        asUnknown();
        asOutside();
        asBoth();
        asChangesNothing();
        lettersAreSoLong();
        lettersUnknown();
        lettersOutside();
        lettersBoth();
        leftOutOrNot();
        leaveUnknown();
        swapAtEachPlace();
        swapOfTheSame();
        swapUnknown();
        dayTellsBoth();
        dayOfNothingWrong();
        dayOfAllWrong();
        dayAfterDay();
        dayState();
        check.end();
    }

    private static void everyUnknown(String call, OfHouse asks) {
        for (int house = -2; house <= 8; house++) {
            unknown(call, asks, house, 0);
        }
        for (int many = 2; many <= 6; many++) {
            String text = SIX.substring(0, 3 * many - 1) + ";7";
            check.due(call + " of the first of " + many, asks.ask(Check.round(text), 0) >= MilkRound.NONE ? 1 : 0, 1);
            check.due(call + " of the last of " + many, asks.ask(Check.round(text), many - 1) >= MilkRound.NONE ? 1 : 0, 1);
            unknown(call, asks, -1, many);
            unknown(call, asks, many, many);
            unknown(call, asks, 32, many);
            for (int house : States.HARD) {
                unknown(call, asks, house, many);
            }
        }
        check.refused(call + " of 3 of three", States::rich, x -> asks.ask(x, 3), MilkRound.UNKNOWN);
        check.refused(call + " of 6 of six", States::full, x -> asks.ask(x, 6), MilkRound.UNKNOWN);
        check.refused(call + " of -1 of six", States::full, x -> asks.ask(x, -1), MilkRound.UNKNOWN);
    }

    private static void unknown(String call, OfHouse asks, int house, int many) {
        check.refused(call + " of " + house + " of " + many,
            () -> many == 0 ? States.bare() : Check.round(SIX.substring(0, 3 * many - 1) + ";7"),
            x -> asks.ask(x, house), MilkRound.UNKNOWN);
    }

    private static void outside(String call, ToLongFunction<MilkRound> asks) {
        check.refused(call, States::rich, asks, MilkRound.OUTSIDE);
        check.refused(call + " of six", States::full, asks, MilkRound.OUTSIDE);
    }

    private static void aboutEachWhat() {
        check.sentence("6 about: 0 KIND, 1 how long, 2 LEFT OUT (1, 0), 3 MINUTES he reads, 4 so-manieth in the ORDER (from 0), "
            + "5 at how many MINUTES, 6 SOUR (1, 0), 7 HEARS IT (1, 0), 8 MOST");
        // in the order 5, 1, 2, 3, 4, 0; left out at 4: milk at 7, 12, 19, 22, 29, 31
        MilkRound x = Check.round(SIX + ";7");
        x.swap(0, 5);
        x.leave(4, true);
        int[][] due = {
            {0, 1, 0, 1, 5, 31, 1, 1, 9},
            {1, 2, 0, 4, 1, 12, 0, 0, 0},
            {2, 3, 0, 6, 2, 19, 1, 0, 0},
            {3, 4, 0, 2, 3, 22, 0, 0, 2},
            {4, 5, 1, 6, 4, 29, 1, 1, 2},
            {0, 6, 0, 6, 0, 7, 0, 0, 1},
        };
        for (int house = 0; house < 6; house++) {
            for (int what = 0; what <= 8; what++) {
                check.due("about(" + house + ", " + what + ")", x.about(house, what), due[house][what]);
            }
        }
    }

    private static void aboutUnknown() {
        check.sentence("6 about: UNKNOWN");
        for (int what = 0; what <= 8; what++) {
            int asked = what;
            everyUnknown("about, " + what, (x, house) -> x.about(house, asked));
        }
    }

    private static void aboutOutside() {
        check.sentence("6 about: OUTSIDE");
        for (int what : new int[] {-1, 9, 10, Integer.MIN_VALUE, Integer.MAX_VALUE}) {
            outside("about(0, " + what + ")", x -> x.about(0, what));
            outside("about(2, " + what + ")", x -> x.about(2, what));
        }
        check.due("about(0, 0) is not", States.rich().about(0, 0), 3);
        check.due("about(0, 8) is not", Check.round("h0,h0;1").about(0, 8), 2);
    }

    private static void aboutBoth() {
        check.sentence("6 about: of several refusals the first as told: UNKNOWN, then OUTSIDE");
        for (int what : new int[] {-1, 9, Integer.MIN_VALUE, Integer.MAX_VALUE}) {
            everyUnknownAlone("about, " + what, (x, house) -> x.about(house, what));
        }
    }

    /** Where another refusal stands behind UNKNOWN, so that no house can answer. */
    private static void everyUnknownAlone(String call, OfHouse asks) {
        for (int house : new int[] {-1, 6, Integer.MIN_VALUE, Integer.MAX_VALUE}) {
            unknown(call, asks, house, 0);
            unknown(call, asks, house, 6);
            unknown(call, asks, house, 2);
        }
        unknown(call, asks, 0, 0);
        unknown(call, asks, 2, 2);
    }

    private static void aboutChangesNothing() {
        check.sentence("6 about: it only tells");
        for (int what = 0; what <= 8; what++) {
            int asked = what;
            check.refused("about(1, " + what + ")", States::rich, x -> x.about(1, asked), States.rich().about(1, what));
        }
    }

    private static void asEachKind() {
        check.sentence("7 as: A HOUSE taken as a KIND: its number; NONE: it is none such (the cast fails)");
        boolean[][] such = {
            {true, false, false, false, false},
            {true, true, false, false, false},
            {true, false, true, false, false},
            {true, false, false, true, false},
            {true, true, false, false, true},
        };
        MilkRound x = Check.round("w0,h1,s2,a3,b4,w5;1");
        for (int house = 0; house < 6; house++) {
            for (int kind = 0; kind <= 4; kind++) {
                int due = such[x.about(house, 0)][kind] ? house : MilkRound.NONE;
                check.due("as(" + house + ", " + kind + ")", x.as(house, kind), due);
            }
        }
    }

    private static void asUnknown() {
        check.sentence("7 as: UNKNOWN");
        for (int kind = 0; kind <= 4; kind++) {
            int asked = kind;
            everyUnknown("as, " + kind, (x, house) -> x.as(house, asked));
        }
    }

    private static void asOutside() {
        check.sentence("7 as: OUTSIDE");
        for (int kind : new int[] {-1, 5, Integer.MIN_VALUE, Integer.MAX_VALUE}) {
            outside("as(0, " + kind + ")", x -> x.as(0, kind));
            outside("as(2, " + kind + ")", x -> x.as(2, kind));
        }
        check.due("as(0, 0) is not", Check.round("w0,w0;1").as(0, 0), 0);
        check.due("as(1, 4) is not", Check.round("w0,w0;1").as(1, 4), 1);
    }

    private static void asBoth() {
        check.sentence("7 as: of several refusals the first as told: UNKNOWN, then OUTSIDE");
        for (int kind : new int[] {-1, 5, Integer.MIN_VALUE, Integer.MAX_VALUE}) {
            everyUnknownAlone("as, " + kind, (x, house) -> x.as(house, kind));
        }
    }

    private static void asChangesNothing() {
        check.sentence("7 as: it only tells");
        check.refused("as(1, 1)", States::rich, x -> x.as(1, 1), 1);
        check.refused("as(1, 2)", States::rich, x -> x.as(1, 2), MilkRound.NONE);
    }

    private static void lettersAreSoLong() {
        check.sentence("8 letters: Its LETTERS are so long: how long they were");
        for (int house = 0; house < 6; house++) {
            MilkRound x = Check.round(SIX + ";7");
            int were = house + 1;
            for (int length : new int[] {0, 0, 9, 9, 1, 8, 5}) {
                check.due("letters(" + house + ", " + length + ")", x.letters(house, length), were);
                check.due("about(" + house + ", 1)", x.about(house, 1), length);
                were = length;
            }
            for (int other = 0; other < 6; other++) {
                check.due("letters of " + other, x.about(other, 1), other == house ? 5 : other + 1);
            }
        }
    }

    private static void lettersUnknown() {
        check.sentence("8 letters: UNKNOWN");
        everyUnknown("letters, 0", (x, house) -> x.letters(house, 0));
        everyUnknown("letters, 9", (x, house) -> x.letters(house, 9));
    }

    private static void lettersOutside() {
        check.sentence("8 letters: OUTSIDE: length (0 to 9)");
        for (int length : new int[] {-1, 10, 48, 57, Integer.MIN_VALUE, Integer.MAX_VALUE}) {
            outside("letters(0, " + length + ")", x -> x.letters(0, length));
            outside("letters(2, " + length + ")", x -> x.letters(2, length));
        }
        for (int length = 0; length <= 9; length++) {
            check.due("letters(1, " + length + ")", Check.round("h3,h4;5").letters(1, length), 4);
        }
    }

    private static void lettersBoth() {
        check.sentence("8 letters: of several refusals the first as told: UNKNOWN, then OUTSIDE");
        for (int length : new int[] {-1, 10, Integer.MIN_VALUE, Integer.MAX_VALUE}) {
            everyUnknownAlone("letters, " + length, (x, house) -> x.letters(house, length));
        }
    }

    private static void leftOutOrNot() {
        check.sentence("9 leave: There it is LEFT OUT, or not: whether it was (1, 0)");
        for (int house = 0; house < 6; house++) {
            for (int all = 0; all <= 1; all++) {
                MilkRound x = Check.round(SIX + ";7");
                for (int other = 0; other < 6; other++) {
                    x.leave(other, all == 1);
                }
                check.due("leave(" + house + ", false)", x.leave(house, false), all);
                check.due("leave(" + house + ", false) again", x.leave(house, false), 0);
                check.due("leave(" + house + ", true)", x.leave(house, true), 0);
                check.due("leave(" + house + ", true) again", x.leave(house, true), 1);
                check.due("about(" + house + ", 2)", x.about(house, 2), 1);
                for (int other = 0; other < 6; other++) {
                    check.due("left out at " + other, x.about(other, 2), other == house ? 1 : all);
                }
            }
        }
    }

    private static void leaveUnknown() {
        check.sentence("9 leave: UNKNOWN");
        everyUnknown("leave, true", (x, house) -> x.leave(house, true));
        everyUnknown("leave, false", (x, house) -> x.leave(house, false));
    }

    private static void swapAtEachPlace() {
        check.sentence("10 swap: Two HOUSES change about in the ORDER: at which place (from 0) the first one was");
        for (int a = 0; a < 6; a++) {
            for (int b = 0; b < 6; b++) {
                MilkRound x = Check.round(SIX + ";7");
                check.due("swap(" + a + ", " + b + ")", x.swap(a, b), a);
                for (int house = 0; house < 6; house++) {
                    int due = house == a ? b : house == b ? a : house;
                    check.due("place of " + house, x.about(house, 4), due);
                }
                check.due("swap(" + a + ", " + b + ") again", x.swap(a, b), b);
                check.due("as at first: digest()", x.digest(), Check.round(SIX + ";7").digest());
            }
        }
        // by their numbers, not by their places
        MilkRound x = Check.round("h0,h0,h0;1");
        x.swap(0, 1);
        check.due("swap(0, 2)", x.swap(0, 2), 1);
        check.due("place of 0", x.about(0, 4), 2);
        check.due("place of 1", x.about(1, 4), 0);
        check.due("place of 2", x.about(2, 4), 1);
    }

    private static void swapOfTheSame() {
        check.sentence("10 swap: a, b (they may be the same)");
        for (int house = 0; house < 3; house++) {
            int same = house;
            check.refused("swap(" + house + ", " + house + ")", States::rich, x -> x.swap(same, same), States.rich().about(house, 4));
        }
    }

    private static void swapUnknown() {
        check.sentence("10 swap: UNKNOWN: a, b");
        everyUnknown("swap, a", (x, house) -> x.swap(house, 0));
        everyUnknown("swap, b", (x, house) -> x.swap(1, house));
        everyUnknown("swap, both", (x, house) -> x.swap(house, house));
        check.refused("swap(-1, 6)", States::full, x -> x.swap(-1, 6), MilkRound.UNKNOWN);
        check.refused("swap(6, -1)", States::full, x -> x.swap(6, -1), MilkRound.UNKNOWN);
    }

    private static void dayTellsBoth() {
        check.sentence("11 day: A DAY: how many were SOUR, and HEARD IT, together");
        MilkRound x = Check.round("h0,w9,h0;1");
        check.due("sour", x.count(5), 2);
        check.due("hear it", x.count(6), 1);
        check.due("day()", x.day(), 3);
        check.due("count(2)", x.count(2), 1);
        check.due("count(3)", x.count(3), 2);
        check.due("count(4)", x.count(4), 1);
    }

    private static void dayOfNothingWrong() {
        check.sentence("11 day: none was SOUR, none HEARD IT");
        MilkRound x = Check.round("h0,h0,h0,h0;1");
        check.due("day()", x.day(), 0);
        check.due("count(2)", x.count(2), 1);
        check.due("count(3)", x.count(3), 0);
        check.due("count(4)", x.count(4), 0);
        check.due("milk at 4 is as old as it may be", x.about(3, 5), 4);
        check.due("one more is sour", Check.round("h0,h0,h0,h0,h0;1").day(), 1);
    }

    private static void dayOfAllWrong() {
        check.sentence("11 day: all were SOUR, all but the first HEARD IT");
        MilkRound x = Check.round("w9,w9,w9,w9,w9,w9;1");
        check.due("day()", x.day(), 11);
        check.due("count(3)", x.count(3), 6);
        check.due("count(4)", x.count(4), 5);
        // behind it each reads 2: milk at 3, 6, 9, 12, 15, 18
        check.due("the second day()", x.day(), 5);
        check.due("count(3)", x.count(3), 11);
        check.due("count(4)", x.count(4), 5);
    }

    private static void dayAfterDay() {
        check.sentence("11 day: as many as an object's calls allow (512)");
        MilkRound x = Check.round("w0,w0;1");
        for (int days = 1; days <= 250; days++) {
            check.due("day()", x.day(), 1);
            check.due("count(2)", x.count(2), days);
        }
        check.due("count(3), the 509th call", x.count(3), 250);
        check.due("count(4), the 510th call", x.count(4), 0);
        check.due("day(), the 511th call", x.day(), 1);
        check.due("count(2), the 512th call", x.count(2), 251);
    }

    private static void dayState() {
        check.sentence("11 day: STATE: no ROUND");
        check.refused("day(), new", MilkRound::new, MilkRound::day, MilkRound.STATE);
        check.refused("day() with a page", States::bare, MilkRound::day, MilkRound.STATE);
        check.refused("day() with a round on the page alone", () -> Check.page("h0,h0;1"), MilkRound::day, MilkRound.STATE);
        check.refused("day() with a full page", States::bareAndFull, MilkRound::day, MilkRound.STATE);
    }
}
