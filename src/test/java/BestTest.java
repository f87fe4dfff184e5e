/** Promise 12: best. */
public final class BestTest {
    private static final Check check = new Check();

    public static void main(String[] args) {
        best("h0,h0;9", 0, 0, 1);
        best("h0,h5;9", 0, 1, 0);
        best("h5,h0;9", 0, 0, 1);
        best("h0,w9;1", 2, 0, 1);
        best("h2,s3,a4,b5;4", 1, 1, 0, 3, 2);
        best("a3,s5,b7,w1,h9;5", 3, 4, 3, 2, 0, 1);
        best("h0,h0,h0,h0,h0,h0;9", 0, 0, 1, 2, 3, 4, 5);
        best("h0,h0,h0,h0,h9,h0;9", 0, 4, 0, 1, 2, 3, 5);
        leftOutCounts();
        nothingChanges();
        thirtyTimes();
        refusals();
        check.end();
    }

    private static void best(String text, int few, int... order) {
        MilkRound x = Check.round(text);
        check.due("best(0) of " + text, x.best(0), few);
        for (int place = 0; place < 6; place++) {
            int want = place < order.length ? order[place] : MilkRound.NONE;
            check.due("best(1" + place + ") of " + text, x.best(10 + place), want);
        }
    }

    private static void leftOutCounts() {
        MilkRound x = Check.round("h0,h5;9");
        x.leave(1, true);
        check.due("best(10), left out", x.best(10), 0);
        x.leave(1, false);
        x.letters(1, 4);
        check.due("best(10), shorter", x.best(10), 0);
        x.letters(1, 5);
        check.due("best(10), as read", x.best(10), 1);
    }

    private static void nothingChanges() {
        MilkRound x = Check.round("h0,h5;9");
        x.best(0);
        check.due("the order stays", x.about(0, 4), 0);
        check.due("letters stay", x.about(1, 1), 5);
        check.due("days stay", x.count(2), 0);
    }

    private static void thirtyTimes() {
        MilkRound x = Check.round("h0,h0;9");
        x.image();
        x.best(9);
        for (int done = 0; done < 30; done++) {
            check.due("count(11)", x.count(11), done);
            x.best(done % 2 == 0 ? 15 : 0);
            if (done == 10) {
                x.restore();
            }
            if (done == 20) {
                Check.write(x, "h0,h0;9");
                x.round();
            }
        }
        check.due("best(0), the 31st", x.best(0), MilkRound.STATE);
        check.due("best(1), the 31st", x.best(1), MilkRound.OUTSIDE);
        check.due("count(11), at last", x.count(11), 30);
    }

    private static void refusals() {
        MilkRound x = Check.round("h0,h0;9");
        for (int what : new int[] {-1, 1, 9, 16}) {
            check.due("best(" + what + ")", x.best(what), MilkRound.OUTSIDE);
            check.due("best(" + what + "), no round", new MilkRound().best(what), MilkRound.OUTSIDE);
        }
        check.due("best(15), no round", new MilkRound().best(15), MilkRound.STATE);
        check.due("count(11)", x.count(11), 0);
    }
}
