/** Objects in states where a refused call would leave a trace, and all that can be asked of an object. */
final class States {
    static final int[] HARD = {Integer.MIN_VALUE, Integer.MIN_VALUE + 1, Integer.MAX_VALUE - 1, Integer.MAX_VALUE};

    /** No round, but a page that could become one. */
    static MilkRound bare() {
        return Check.page("h0,h0;");
    }

    /** No round, and a full page. */
    static MilkRound bareAndFull() {
        return Check.page("h1,s2,a3,b4,w5,h6;789");
    }

    /** Three houses, with an image that differs from what is, and something of all else. */
    static MilkRound rich() {
        MilkRound x = Check.round("b9,w2,h2;2");
        x.day();
        x.known(1, 4);
        x.image();
        x.letters(1, 3);
        x.letters(2, 5);
        x.leave(2, true);
        x.swap(0, 1);
        x.forget();
        x.known(1, 9);
        x.known(0, 11);
        x.best(10);
        Check.write(x, "h7,");
        return x;
    }

    /** Six houses; the page, what is known, and best() are full. */
    static MilkRound full() {
        MilkRound x = Check.round("h1,s2,a3,b4,w5,h6;7");
        x.image();
        for (int i = 0; i < 6; i++) {
            x.known(i, x.about(i, 5));
        }
        for (int i = 0; i < 30; i++) {
            x.best(0);
        }
        Check.write(x, "h1,s2,a3,b4,w5,h6;789");
        return x;
    }

    /** Asks both objects all that there is, what the image kept last, as restore() changes them. */
    static void due(Check check, String call, MilkRound got, MilkRound want) {
        dueNow(check, call, got, want);
        check.due(call + "restore()", got.restore(), want.restore());
        dueNow(check, call + "restored, ", got, want);
    }

    private static void dueNow(Check check, String call, MilkRound got, MilkRound want) {
        for (int what = 0; what <= 11; what++) {
            check.due(call + "count(" + what + ")", got.count(what), want.count(what));
        }
        for (int house = 0; house < want.count(0); house++) {
            for (int what = 0; what <= 8; what++) {
                check.due(call + "about(" + house + ", " + what + ")", got.about(house, what), want.about(house, what));
            }
        }
        check.due(call + "sets(0)", got.sets(0), want.sets(0));
        check.due(call + "sets(1)", got.sets(1), want.sets(1));
        check.due(call + "ask()", got.ask(), want.ask());
        check.due(call + "fault()", got.fault(), want.fault());
        check.due(call + "digest()", got.digest(), want.digest());
    }
}
