import java.util.function.ToLongFunction;

/** The edges of promises 13 to 17, a sentence each: known, forget, sets, ask, weeks. */
public final class EdgesKnownTest {
    private static final Check check = new Check();
    private static final int[] HARD = {Integer.MIN_VALUE, Integer.MAX_VALUE};

    public static void main(String[] args) {
        howMuchIsKnown();
        knownUnknown();
        knownOutside();
        knownFull();
        knownSeveral();
        forgetNothingAndAll();
        setsOfNothingKnown();
        setsAsAsked();
        setsNone();
        setsOutside();
        setsState();
        setsBoth();
        askAsAsked();
        askNone();
        askState();
        weeksEdges();
        weeksOutside();
        weeksState();
        weeksBoth();
        weeksWouldBe();
        check.end();
    }

    private static void noRound(String call, ToLongFunction<MilkRound> asks, int want) {
        check.refused(call + ", new", MilkRound::new, asks, want);
        check.refused(call + " with a page", States::bare, asks, want);
        check.refused(call + " with a full page", States::bareAndFull, asks, want);
    }

    private static void howMuchIsKnown() {
        check.sentence("13 known: It is KNOWN: how much is");
        MilkRound x = Check.round("h2,h4;9");
        for (int much = 1; much <= 6; much++) {
            check.due("known(1, 8), the " + much + ".", x.known(1, 8), much);
            check.due("count(8)", x.count(8), much);
        }
        check.due("the same six times", x.sets(0), 1);
    }

    private static void knownUnknown() {
        check.sentence("13 known: UNKNOWN: house");
        for (int house : new int[] {-1, 3, 6, 32, Integer.MIN_VALUE, Integer.MAX_VALUE}) {
            check.refused("known(" + house + ", 1) of three", States::rich, x -> x.known(house, 1), MilkRound.UNKNOWN);
        }
        for (int house = -1; house <= 6; house++) {
            int asked = house;
            noRound("known(" + house + ", 1)", x -> x.known(asked, 1), MilkRound.UNKNOWN);
        }
        for (int house = 0; house < 3; house++) {
            check.due("known(" + house + ", 1) of three", States.rich().known(house, 1), 3);
        }
    }

    private static void knownOutside() {
        check.sentence("13 known: OUTSIDE: minutes (1 to 150)");
        for (int minutes : new int[] {0, -1, 151, 152, Integer.MIN_VALUE, Integer.MAX_VALUE}) {
            check.refused("known(0, " + minutes + ")", States::rich, x -> x.known(0, minutes), MilkRound.OUTSIDE);
        }
        for (int minutes = 1; minutes <= 150; minutes++) {
            check.due("known(0, " + minutes + ")", Check.round("h0,h0;1").known(0, minutes), 1);
        }
        MilkRound least = Check.round("h0,h0;1");
        least.known(0, 1);
        check.due("minute 1 can be", least.sets(0), 4);
        MilkRound largest = Check.round("w9,w9,w9,w9,w9,w9;1");
        largest.known(5, 126);
        check.due("minute 126 can be", largest.sets(0), 1);
        largest.known(5, 150);
        check.due("minute 150 cannot be", largest.sets(0), 0);
    }

    private static MilkRound sixKnown() {
        MilkRound x = States.rich();
        while (x.count(8) < 6) {
            x.known(1, 9);
        }
        return x;
    }

    private static void knownFull() {
        check.sentence("13 known: FULL (6 at most)");
        check.due("known, the sixth", sixKnown().count(8), 6);
        for (int minutes : new int[] {1, 9, 150}) {
            check.refused("known(1, " + minutes + "), the seventh", EdgesKnownTest::sixKnown, x -> x.known(1, minutes), MilkRound.FULL);
            check.refused("known(5, " + minutes + "), of six", States::full, x -> x.known(5, minutes), MilkRound.FULL);
        }
        MilkRound x = sixKnown();
        x.forget();
        for (int much = 1; much <= 6; much++) {
            check.due("known behind forget()", x.known(0, 150), much);
        }
        check.due("known, the seventh again", x.known(0, 150), MilkRound.FULL);
        x.restore();
        check.due("the image had one", x.known(0, 150), 2);
    }

    private static void knownSeveral() {
        check.sentence("13 known: of several refusals the first as told: UNKNOWN, then OUTSIDE, then FULL");
        for (int house : new int[] {-1, 3, Integer.MIN_VALUE, Integer.MAX_VALUE}) {
            for (int minutes : new int[] {0, 151, Integer.MIN_VALUE, Integer.MAX_VALUE}) {
                check.refused("known(" + house + ", " + minutes + ")", States::rich, x -> x.known(house, minutes), MilkRound.UNKNOWN);
                check.refused("known(" + house + ", " + minutes + "), full", EdgesKnownTest::sixKnown, x -> x.known(house, minutes),
                    MilkRound.UNKNOWN);
                noRound("known(" + house + ", " + minutes + ")", x -> x.known(house, minutes), MilkRound.UNKNOWN);
            }
            check.refused("known(" + house + ", 1), full", EdgesKnownTest::sixKnown, x -> x.known(house, 1), MilkRound.UNKNOWN);
        }
        for (int minutes : new int[] {0, 151, Integer.MIN_VALUE, Integer.MAX_VALUE}) {
            check.refused("known(0, " + minutes + "), full", EdgesKnownTest::sixKnown, x -> x.known(0, minutes), MilkRound.OUTSIDE);
        }
    }

    private static void forgetNothingAndAll() {
        check.sentence("14 forget: Nothing is KNOWN any more: how much was");
        noRound("forget()", MilkRound::forget, 0);
        check.refused("forget() of nothing", () -> Check.round("h2,h4;9"), MilkRound::forget, 0);
        for (int much = 1; much <= 6; much++) {
            MilkRound x = Check.round("h2,h4;9");
            for (int i = 0; i < much; i++) {
                x.known(1, 6);
            }
            check.due("forget() of " + much, x.forget(), much);
            States.due(check, "forget() of " + much + ": ", x, Check.round("h2,h4;9"));
            check.due("forget() again", x.forget(), 0);
        }
        MilkRound x = States.full();
        check.due("forget() of the full", x.forget(), 6);
        check.due("sets(0)", x.sets(0), 64);
        check.due("days stay", x.count(2), 0);
        check.due("the page stays", x.count(9), 21);
    }

    private static void setsOfNothingKnown() {
        check.sentence("15 sets: SETS: what = 0 how many, 1 the least; nothing is KNOWN");
        for (int many = 2; many <= 6; many++) {
            MilkRound x = Check.round("h9,s9,a9,b9,w9,h9".substring(0, 3 * many - 1) + ";1");
            check.due("sets(0) of " + many, x.sets(0), 1 << many);
            check.due("sets(1) of " + many, x.sets(1), 0);
            for (int house = 0; house < many; house++) {
                x.leave(house, true);
            }
            check.due("sets(0) of " + many + ", whatever is left out", x.sets(0), 1 << many);
            check.due("sets(1) of " + many + ", whatever is left out", x.sets(1), 0);
        }
    }

    private static void setsAsAsked() {
        check.sentence("15 sets: in the ORDER, with the LETTERS, as they are when it is asked");
        // h2 reads 2 or 1, h4 reads 4 or 2
        MilkRound x = Check.round("h2,h4;9");
        x.known(1, 5);
        check.due("sets(1), both are left out", x.sets(1), 3);
        x.swap(0, 1);
        check.due("sets(0) in the other order", x.sets(0), 2);
        check.due("sets(1) in the other order", x.sets(1), 0);
        x.letters(1, 8);
        check.due("sets(1) with longer letters", x.sets(1), 2);
        x.swap(0, 1);
        x.letters(0, 0);
        x.letters(1, 3);
        check.due("sets(0) with other letters", x.sets(0), 2);
        check.due("sets(1) with other letters", x.sets(1), 0);
        x.day();
        check.due("sets(0) behind a day", x.sets(0), 0);
        check.due("it is still known", x.count(8), 1);
    }

    private static void setsNone() {
        check.sentence("15 sets: 1 the least (NONE)");
        MilkRound x = Check.round("h2,h4;9");
        x.known(1, 150);
        check.due("sets(0)", x.sets(0), 0);
        check.due("sets(1)", x.sets(1), MilkRound.NONE);
        MilkRound both = Check.round("h2,h4;9");
        both.known(0, 3);
        both.known(0, 2);
        check.due("sets(0), both cannot be", both.sets(0), 0);
        check.due("sets(1), both cannot be", both.sets(1), MilkRound.NONE);
        MilkRound last = Check.round("s1,s1,s1,s1,s1,s1;9");
        last.known(5, 12);
        check.due("sets(0), all of them", last.sets(0), 1);
        check.due("sets(1), all of them", last.sets(1), 63);
    }

    private static void setsOutside() {
        check.sentence("15 sets: OUTSIDE");
        for (int what : new int[] {-1, 2, Integer.MIN_VALUE, Integer.MAX_VALUE}) {
            check.refused("sets(" + what + ")", States::rich, x -> x.sets(what), MilkRound.OUTSIDE);
            check.refused("sets(" + what + ") of six", States::full, x -> x.sets(what), MilkRound.OUTSIDE);
        }
        check.refused("sets(0) is not", States::rich, x -> x.sets(0), 2);
        check.refused("sets(1) is not", States::rich, x -> x.sets(1), 1);
    }

    private static void setsState() {
        check.sentence("15 sets: STATE: no ROUND");
        noRound("sets(0)", x -> x.sets(0), MilkRound.STATE);
        noRound("sets(1)", x -> x.sets(1), MilkRound.STATE);
    }

    private static void setsBoth() {
        check.sentence("15 sets: of several refusals the first as told: OUTSIDE, then STATE");
        for (int what : new int[] {-1, 2, Integer.MIN_VALUE, Integer.MAX_VALUE}) {
            noRound("sets(" + what + ")", x -> x.sets(what), MilkRound.OUTSIDE);
        }
    }

    private static void askAsAsked() {
        check.sentence("16 ask: ASK");
        check.refused("ask()", States::rich, MilkRound::ask, 2);
        // h2, h4: by number 0 two are left at worst, by number 1 one (8, 7, 6, 5)
        MilkRound x = Check.round("h2,h4;9");
        check.due("ask() of two", x.ask(), 1);
        x.known(0, 3);
        check.due("ask(), number 0 has told", x.ask(), 1);
        x.known(1, 6);
        check.due("ask(), one is left", x.ask(), 0);
        // h2, h2: by number 0 two at worst (3, 2), by number 1 two (6, 5, 5, 4)
        check.due("ask() of like ones", Check.round("h2,h2;9").ask(), 0);
        // h0, h2, h2: by number 0 eight, by number 1 four, by number 2 four
        check.due("ask() of like ones behind a worse one", Check.round("h0,h2,h2;9").ask(), 1);
        MilkRound last = Check.round("h0,h0,h0,h0,h0,h9;9");
        check.due("ask(), the last one", last.ask(), 5);
        last.swap(0, 5);
        check.due("ask(), all can tell", last.ask(), 0);
    }

    private static void askNone() {
        check.sentence("16 ask: NONE");
        MilkRound x = Check.round("h2,h4;9");
        x.known(0, 1);
        check.due("ask() with no set", x.ask(), MilkRound.NONE);
        x.forget();
        check.due("ask() behind forget()", x.ask(), 1);
        MilkRound one = Check.round("h2,h4;9");
        one.known(1, 8);
        check.due("one set, the empty one: sets(1)", one.sets(1), 0);
        check.due("one set, the empty one: ask()", one.ask(), 0);
        check.refused("ask() with all known", States::full, MilkRound::ask, 0);
    }

    private static void askState() {
        check.sentence("16 ask: STATE: no ROUND");
        noRound("ask()", MilkRound::ask, MilkRound.STATE);
    }

    private static void weeksEdges() {
        check.sentence("17 weeks: what = 0 how many SOUR, 1 how many HEAR IT, 2 the SEED then; days (1 to 60), seed (0 at least)");
        // by 0 the draws are 0, 8, 8, 7: milk at 1 and 10, then at 9 and 17
        MilkRound x = Check.round("h5,h5;2");
        int[][] due = {{1, 1, 1406932606}, {3, 2, 1449466924}};
        for (int what = 0; what <= 2; what++) {
            check.due("weeks(1, 0, " + what + ")", x.weeks(1, 0, what), due[0][what]);
            check.due("weeks(2, 0, " + what + ")", x.weeks(2, 0, what), due[1][what]);
        }
        check.due("weeks(1, 2147483647, 2)", x.weeks(1, 2147483647, 2), 288979989);
        // draws 9 and 9: milk at 10 and 20
        check.due("weeks(1, 2147483647, 0)", x.weeks(1, 2147483647, 0), 2);
        check.due("weeks(1, 2147483647, 1)", x.weeks(1, 2147483647, 1), 1);
        MilkRound six = Check.round("w0,w0,w0,w0,w0,w0;9");
        check.due("weeks(60, 0, 2)", six.weeks(60, 0, 2), seedBehind(0, 360));
        check.due("weeks(60, 2147483647, 2)", six.weeks(60, 2147483647, 2), seedBehind(2147483647, 360));
        check.due("weeks(60, 0, 2) of two", x.weeks(60, 0, 2), seedBehind(0, 120));
        // at an alone one with KEEP 1 all is sour, and nothing heard, whatever is drawn
        MilkRound alone = Check.round("a0,a0,a0,a0,a0,a0;1");
        for (int days = 1; days <= 60; days++) {
            check.due("weeks(" + days + ", 7, 0)", alone.weeks(days, 7, 0), 6 * days);
            check.due("weeks(" + days + ", 7, 1)", alone.weeks(days, 7, 1), 0);
        }
    }

    private static long seedBehind(int seed, int draws) {
        java.math.BigInteger next = java.math.BigInteger.valueOf(seed);
        for (int i = 0; i < draws; i++) {
            next = next.multiply(java.math.BigInteger.valueOf(1103515245)).add(java.math.BigInteger.valueOf(12345))
                .mod(java.math.BigInteger.TWO.pow(31));
        }
        return next.longValueExact();
    }

    private static void weeksOutside(String call, ToLongFunction<MilkRound> asks) {
        check.refused(call, States::rich, asks, MilkRound.OUTSIDE);
        check.refused(call + " of six", States::full, asks, MilkRound.OUTSIDE);
    }

    private static void weeksOutside() {
        check.sentence("17 weeks: OUTSIDE: days (1 to 60), seed (0 at least), what");
        for (int what = 0; what <= 2; what++) {
            int asked = what;
            for (int days : new int[] {0, 61, -1, Integer.MIN_VALUE, Integer.MAX_VALUE}) {
                weeksOutside("weeks(" + days + ", 0, " + what + ")", x -> x.weeks(days, 0, asked));
            }
            for (int seed : new int[] {-1, Integer.MIN_VALUE}) {
                weeksOutside("weeks(1, " + seed + ", " + what + ")", x -> x.weeks(1, seed, asked));
            }
        }
        for (int what : new int[] {-1, 3, Integer.MIN_VALUE, Integer.MAX_VALUE}) {
            weeksOutside("weeks(60, 0, " + what + ")", x -> x.weeks(60, 0, what));
        }
        weeksOutside("weeks(0, -1, 3)", x -> x.weeks(0, -1, 3));
        for (int days : new int[] {1, 60}) {
            for (int seed : new int[] {0, 1, Integer.MAX_VALUE}) {
                for (int what = 0; what <= 2; what++) {
                    int got = States.rich().weeks(days, seed, what);
                    check.due("weeks(" + days + ", " + seed + ", " + what + ") is taken", got >= 0 ? 1 : 0, 1);
                }
            }
        }
    }

    private static void weeksState() {
        check.sentence("17 weeks: STATE: no ROUND");
        for (int what = 0; what <= 2; what++) {
            int asked = what;
            noRound("weeks(1, 0, " + what + ")", x -> x.weeks(1, 0, asked), MilkRound.STATE);
            noRound("weeks(60, 2147483647, " + what + ")", x -> x.weeks(60, 2147483647, asked), MilkRound.STATE);
        }
    }

    private static void weeksBoth() {
        check.sentence("17 weeks: of several refusals the first as told: OUTSIDE, then STATE");
        noRound("weeks(0, 0, 0)", x -> x.weeks(0, 0, 0), MilkRound.OUTSIDE);
        noRound("weeks(61, 0, 0)", x -> x.weeks(61, 0, 0), MilkRound.OUTSIDE);
        noRound("weeks(1, -1, 0)", x -> x.weeks(1, -1, 0), MilkRound.OUTSIDE);
        noRound("weeks(1, 0, -1)", x -> x.weeks(1, 0, -1), MilkRound.OUTSIDE);
        noRound("weeks(1, 0, 3)", x -> x.weeks(1, 0, 3), MilkRound.OUTSIDE);
        for (int hard : HARD) {
            noRound("weeks(" + hard + ", 0, 0)", x -> x.weeks(hard, 0, 0), MilkRound.OUTSIDE);
            noRound("weeks(1, 0, " + hard + ")", x -> x.weeks(1, 0, hard), MilkRound.OUTSIDE);
        }
        noRound("weeks(1, the least int, 0)", x -> x.weeks(1, Integer.MIN_VALUE, 0), MilkRound.OUTSIDE);
    }

    private static void weeksWouldBe() {
        check.sentence("WEEKS by a SEED, as they would be (in place of what they are)");
        for (int what = 0; what <= 2; what++) {
            int asked = what;
            check.refused("weeks(60, 5, " + what + ")", States::rich, x -> x.weeks(60, 5, asked), States.rich().weeks(60, 5, what));
        }
        MilkRound x = Check.round("b9,h9;2");
        MilkRound y = Check.round("b0,h0;2");
        check.due("whatever the letters are, sour", x.weeks(60, 5, 0), y.weeks(60, 5, 0));
        check.due("whatever the letters are, hear it", x.weeks(60, 5, 1), y.weeks(60, 5, 1));
        // by 0 the draws are 0 and 8, house by house and not in the order: milk at 10 and 9
        MilkRound turned = Check.round("h5,h5;2");
        turned.swap(0, 1);
        check.due("in another order, sour", turned.weeks(1, 0, 0), 2);
        check.due("in another order, hear it", turned.weeks(1, 0, 1), 0);
        turned.leave(1, true);
        check.due("left out, sour", turned.weeks(1, 0, 0), 0);
    }
}
