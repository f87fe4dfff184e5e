/** Promises 13 to 17: known, forget, sets, ask, weeks. */
public final class KnownTest {
    private static final Check check = new Check();

    public static void main(String[] args) {
        known();
        forget();
        sets();
        setsAsItIsAsked();
        ask();
        weeks();
        weeksLeaveAll();
        weeksRefusals();
        check.end();
    }

    private static void known() {
        MilkRound x = Check.round("h2,h4;9");
        check.due("known(2, 0)", x.known(2, 0), MilkRound.UNKNOWN);
        check.due("known(-1, 1)", x.known(-1, 1), MilkRound.UNKNOWN);
        check.due("known(0, 0)", x.known(0, 0), MilkRound.OUTSIDE);
        check.due("known(0, 151)", x.known(0, 151), MilkRound.OUTSIDE);
        check.due("count(8) behind refusals", x.count(8), 0);
        check.due("known(0, 1)", x.known(0, 1), 1);
        check.due("known(1, 150)", x.known(1, 150), 2);
        for (int much = 3; much <= 6; much++) {
            check.due("known(1, 150)", x.known(1, 150), much);
        }
        check.due("known, the seventh", x.known(1, 150), MilkRound.FULL);
        check.due("known, the seventh, of none", x.known(2, 150), MilkRound.UNKNOWN);
        check.due("known, the seventh, outside", x.known(1, 0), MilkRound.OUTSIDE);
        check.due("count(8)", x.count(8), 6);
    }

    private static void forget() {
        MilkRound x = Check.round("h2,h4;9");
        check.due("forget() of nothing", x.forget(), 0);
        x.known(0, 3);
        x.known(0, 2);
        check.due("sets(0)", x.sets(0), 0);
        check.due("forget()", x.forget(), 2);
        check.due("forget() again", x.forget(), 0);
        check.due("sets(0), forgotten", x.sets(0), 4);
    }

    private static void sets() {
        MilkRound x = Check.round("h2,h4;9");
        check.due("sets(0)", x.sets(0), 4);
        check.due("sets(1)", x.sets(1), 0);
        x.known(0, 2);
        check.due("sets(0)", x.sets(0), 2);
        check.due("sets(1)", x.sets(1), 1);
        x.known(1, 5);
        check.due("sets(0)", x.sets(0), 1);
        check.due("sets(1)", x.sets(1), 3);
        x.known(1, 7);
        check.due("sets(0)", x.sets(0), 0);
        check.due("sets(1)", x.sets(1), MilkRound.NONE);
        check.due("sets(2)", x.sets(2), MilkRound.OUTSIDE);
        check.due("sets(-1)", x.sets(-1), MilkRound.OUTSIDE);
        check.due("sets(2), no round", new MilkRound().sets(2), MilkRound.OUTSIDE);
        check.due("sets(1), no round", new MilkRound().sets(1), MilkRound.STATE);
        check.due("sets(0) of six", Check.round("h0,h0,h0,h0,h0,h0;1").sets(0), 64);
    }

    private static void setsAsItIsAsked() {
        MilkRound x = Check.round("h2,h4;9");
        x.known(1, 5);
        check.due("sets(1)", x.sets(1), 3);
        x.leave(0, true);
        check.due("sets(1), whatever is left out", x.sets(1), 3);
        x.swap(0, 1);
        check.due("sets(0), in another order", x.sets(0), 2);
        check.due("sets(1), in another order", x.sets(1), 0);
        x.letters(1, 8);
        check.due("sets(0), with other letters", x.sets(0), 2);
        check.due("sets(1), with other letters", x.sets(1), 2);
        x.day();
        check.due("sets(0), behind a day", x.sets(0), 0);
    }

    private static void ask() {
        MilkRound x = Check.round("h2,h4;9");
        check.due("ask()", x.ask(), 1);
        x.swap(0, 1);
        check.due("ask() in another order", x.ask(), 0);
        check.due("ask() once more", x.ask(), 0);
        x.letters(1, 1);
        check.due("ask() with other letters", x.ask(), 0);
        x.letters(0, 1);
        check.due("ask() with shorter ones", x.ask(), 0);
        x.swap(0, 1);
        x.letters(1, 4);
        check.due("ask() as at first", x.ask(), 1);
        check.due("ask() of like ones", Check.round("h0,h0,h0;9").ask(), 0);
        MilkRound one = Check.round("h2,h4;9");
        one.known(1, 6);
        check.due("ask() of one set", one.ask(), 0);
        one.known(0, 1);
        check.due("ask() of no set", one.ask(), MilkRound.NONE);
        MilkRound nowhere = Check.round("h2,h4;9");
        nowhere.known(1, 8);
        check.due("ask() of the empty set alone", nowhere.ask(), 0);
        // house 0 tells nothing, house 1 halves, house 2 tells 7, 6, 6, 5 twice each: both leave four at worst
        check.due("ask() of like worsts", Check.round("h0,h2,h2;9").ask(), 1);
        check.due("ask(), no round", new MilkRound().ask(), MilkRound.STATE);
    }

    private static void weeks() {
        // the first draws by 0: seeds 12345, 1406932606, 654583775, 1449466924, so 0, 8, 8, 7
        MilkRound x = Check.round("h5,h5;2");
        check.due("weeks(1, 0, 0)", x.weeks(1, 0, 0), 1);
        check.due("weeks(1, 0, 1)", x.weeks(1, 0, 1), 1);
        check.due("weeks(1, 0, 2)", x.weeks(1, 0, 2), 1406932606);
        check.due("weeks(2, 0, 0)", x.weeks(2, 0, 0), 3);
        check.due("weeks(2, 0, 1)", x.weeks(2, 0, 1), 2);
        check.due("weeks(2, 0, 2)", x.weeks(2, 0, 2), 1449466924);
        x.swap(0, 1);
        check.due("weeks(1, 0, 0), in another order", x.weeks(1, 0, 0), 2);
        check.due("weeks(1, 0, 1), in another order", x.weeks(1, 0, 1), 0);
        x.leave(1, true);
        check.due("weeks(1, 0, 0), left out", x.weeks(1, 0, 0), 0);
        check.due("weeks(1, 2147483647, 2)", x.weeks(1, 2147483647, 2), 288979989);
    }

    private static void weeksLeaveAll() {
        MilkRound x = Check.round("b5,h5;2");
        x.known(1, 9);
        long before = x.digest();
        x.weeks(60, 99, 0);
        check.due("digest() behind weeks()", x.digest(), before);
    }

    private static void weeksRefusals() {
        MilkRound x = Check.round("h5,h5;2");
        check.due("weeks(0, 0, 0)", x.weeks(0, 0, 0), MilkRound.OUTSIDE);
        check.due("weeks(61, 0, 0)", x.weeks(61, 0, 0), MilkRound.OUTSIDE);
        check.due("weeks(1, -1, 0)", x.weeks(1, -1, 0), MilkRound.OUTSIDE);
        check.due("weeks(1, 0, 3)", x.weeks(1, 0, 3), MilkRound.OUTSIDE);
        check.due("weeks(1, 0, -1)", x.weeks(1, 0, -1), MilkRound.OUTSIDE);
        check.due("weeks(61, 0, 0), no round", new MilkRound().weeks(61, 0, 0), MilkRound.OUTSIDE);
        check.due("weeks(60, 0, 0), no round", new MilkRound().weeks(60, 0, 0), MilkRound.STATE);
    }
}
