import java.util.function.Supplier;

/** The edges of promise 12, a sentence each: best. */
public final class EdgesBestTest {
    private static final Check check = new Check();
    private static final String SIX = "h0,h0,h0,h0,h0,h0";

    public static void main(String[] args) {
        howFew();
        soManieth();
        noneSuch();
        outside();
        noRound();
        doneThirtyTimes();
        doneIsCounted();
        doneStaysDone();
        outsideAndState();
        onlyWouldBe();
        check.end();
    }

    private static void howFew() {
        check.sentence("12 best: what = 0 how few");
        check.due("nothing goes wrong", Check.round(SIX + ";9").best(0), 0);
        check.due("the most that can", Check.round("w9,w9,w9,w9,w9,w9;1").best(0), 9);
        check.due("as it goes is the best", Check.round("h0,h0;1").best(0), 0);
        MilkRound x = Check.round("h0,h5;9");
        check.due("as it goes one hears it", x.count(6), 1);
        check.due("best(0) of two", x.best(0), 0);
        x.swap(0, 1);
        check.due("best(0) of two, whatever the order is", x.best(0), 0);
        check.due("best(10) of two, whatever the order is", x.best(10), 1);
    }

    private static void soManieth() {
        check.sentence("12 best: 10 to 15 the so-manieth HOUSE");
        MilkRound x = Check.round("h0,h0,h0,h0,h0,h5;9");
        int[] due = {5, 0, 1, 2, 3, 4};
        for (int place = 0; place < 6; place++) {
            check.due("best(" + (10 + place) + ")", x.best(10 + place), due[place]);
        }
        // three of six hear it at least, and all are sour: 0, 3 and 5 come ahead of those beside them
        MilkRound worst = Check.round("w9,w9,w9,w9,w9,w9;1");
        int[] dueWorst = {0, 1, 3, 2, 5, 4};
        for (int place = 0; place < 6; place++) {
            check.due("best(" + (10 + place) + ") of the worst", worst.best(10 + place), dueWorst[place]);
        }
        // milk at 4, 14, 19, 24, 28, 31 in the very last order of all, where alone nothing goes wrong
        MilkRound turned = Check.round("b4,b6,h4,w1,a6,b6;9");
        check.due("best(0) of the turned", turned.best(0), 0);
        for (int place = 0; place < 6; place++) {
            check.due("best(" + (10 + place) + ") of the turned", turned.best(10 + place), 5 - place);
        }
        for (int place = 0; place < 2; place++) {
            check.due("best(" + (10 + place) + ") of two", Check.round("h0,h5;9").best(10 + place), 1 - place);
        }
    }

    private static void noneSuch() {
        check.sentence("12 best: (NONE: there is none such)");
        for (int many = 2; many <= 6; many++) {
            MilkRound x = Check.round(SIX.substring(0, 3 * many - 1) + ";9");
            for (int place = 0; place < 6; place++) {
                check.due("best(" + (10 + place) + ") of " + many, x.best(10 + place), place < many ? place : MilkRound.NONE);
            }
        }
        // of another one before it there is nothing left
        MilkRound x = Check.round("h0,h0,h0,h0,h0,h5;9");
        x.best(0);
        Check.write(x, "h0,h0;9");
        x.round();
        check.due("best(11) of two behind six", x.best(11), 1);
        check.due("best(12) of two behind six", x.best(12), MilkRound.NONE);
        check.due("best(15) of two behind six", x.best(15), MilkRound.NONE);
    }

    private static void outside() {
        check.sentence("12 best: OUTSIDE");
        int[] whats = {-1, 1, 2, 3, 4, 5, 6, 7, 8, 9, 16, 17, 32, -10, Integer.MIN_VALUE, Integer.MIN_VALUE + 10, Integer.MAX_VALUE};
        for (int what : whats) {
            check.refused("best(" + what + ")", States::rich, x -> x.best(what), MilkRound.OUTSIDE);
        }
    }

    private static void noRound() {
        check.sentence("12 best: STATE: no ROUND");
        for (int what : new int[] {0, 10, 11, 12, 13, 14, 15}) {
            check.refused("best(" + what + "), new", MilkRound::new, x -> x.best(what), MilkRound.STATE);
            check.refused("best(" + what + ") with a page", States::bare, x -> x.best(what), MilkRound.STATE);
        }
    }

    private static MilkRound done(int times, String text) {
        MilkRound x = Check.round(text);
        for (int i = 0; i < times; i++) {
            x.best(0);
        }
        return x;
    }

    private static void doneThirtyTimes() {
        check.sentence("12 best: STATE: .. or best() was done 30 times");
        for (int what : new int[] {0, 10, 11, 12, 15}) {
            check.due("the 30th, best(" + what + ")", done(29, "h0,h5;9").best(what), Check.round("h0,h5;9").best(what));
            check.refused("the 31st, best(" + what + ")", () -> done(30, "h0,h5;9"), x -> x.best(what), MilkRound.STATE);
            check.refused("the 31st of six, best(" + what + ")", States::full, x -> x.best(what), MilkRound.STATE);
        }
        MilkRound x = done(30, "h0,h5;9");
        for (int more = 0; more < 40; more++) {
            check.due("one more", x.best(0), MilkRound.STATE);
        }
        check.due("count(11)", x.count(11), 30);
    }

    private static void doneIsCounted() {
        check.sentence("12 best: done is what was answered, NONE too, and not what was refused");
        MilkRound x = new MilkRound();
        x.best(0);
        check.due("no round", x.count(11), 0);
        Check.write(x, "h0,h0;9");
        x.round();
        int[] whats = {0, 10, 11, 12, 13, 14, 15};
        for (int done = 0; done < 30; done++) {
            x.best(9);
            x.best(16);
            check.due("count(11)", x.count(11), done);
            check.due("best(), the " + (done + 1) + ".", x.best(whats[done % 7]) >= MilkRound.NONE ? 1 : 0, 1);
        }
        check.due("best(0), the 31st", x.best(0), MilkRound.STATE);
        check.due("count(11), the 31st", x.count(11), 30);
    }

    private static void doneStaysDone() {
        check.sentence("12 best: how often it was done is an object's, not a ROUND's, an IMAGE's, or a DAY's");
        MilkRound x = Check.round("h0,h0;9");
        x.image();
        for (int i = 0; i < 30; i++) {
            x.best(0);
        }
        x.restore();
        check.due("behind restore()", x.best(0), MilkRound.STATE);
        x.day();
        check.due("behind day()", x.best(0), MilkRound.STATE);
        x.forget();
        x.blank();
        check.due("behind forget() and blank()", x.best(0), MilkRound.STATE);
        Check.write(x, "h0,h0;9");
        x.round();
        check.due("behind round()", x.best(0), MilkRound.STATE);
        check.due("count(11)", x.count(11), 30);
        check.due("another object", Check.round("h0,h0;9").best(0), 0);
    }

    private static void outsideAndState() {
        check.sentence("12 best: of several refusals the first as told: OUTSIDE, then STATE");
        Supplier<MilkRound> thirty = States::full;
        for (int what : new int[] {-1, 1, 9, 16, Integer.MIN_VALUE, Integer.MAX_VALUE}) {
            check.refused("best(" + what + "), new", MilkRound::new, x -> x.best(what), MilkRound.OUTSIDE);
            check.refused("best(" + what + "), no round", States::bare, x -> x.best(what), MilkRound.OUTSIDE);
            check.refused("best(" + what + "), the 31st", thirty, x -> x.best(what), MilkRound.OUTSIDE);
        }
    }

    private static void onlyWouldBe() {
        check.sentence("what would be: best() changes nothing but how often it was done");
        MilkRound asked = States.rich();
        asked.best(11);
        MilkRound other = States.rich();
        other.best(0);
        for (int house = 0; house < 3; house++) {
            for (int what = 0; what <= 8; what++) {
                check.due("about(" + house + ", " + what + ")", asked.about(house, what), States.rich().about(house, what));
            }
        }
        for (int what = 0; what <= 10; what++) {
            check.due("count(" + what + ")", asked.count(what), States.rich().count(what));
        }
        check.due("count(11)", asked.count(11), 2);
        States.due(check, "best(11) or best(0): ", asked, other);
    }
}
