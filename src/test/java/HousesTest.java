/** Promises 6 to 11: about, as, letters, leave, swap, day. */
public final class HousesTest {
    private static final Check check = new Check();

    public static void main(String[] args) {
        aboutAllKinds();
        aboutEdges();
        most();
        aboutRefusals();
        as();
        letters();
        leave();
        swap();
        day();
        dayOfBad();
        check.end();
    }

    private static void row(MilkRound x, int what, int... want) {
        for (int house = 0; house < want.length; house++) {
            check.due("about(" + house + ", " + what + ")", x.about(house, what), want[house]);
        }
    }

    private static void aboutAllKinds() {
        MilkRound x = Check.round("h3,s3,a3,b3,w3;2");
        row(x, 0, 0, 1, 2, 3, 4);
        row(x, 1, 3, 3, 3, 3, 3);
        row(x, 2, 0, 0, 0, 0, 0);
        row(x, 3, 3, 6, 6, 2, 8);
        row(x, 4, 0, 1, 2, 3, 4);
        row(x, 5, 4, 11, 18, 21, 30);
        row(x, 6, 0, 1, 1, 1, 1);
        row(x, 7, 0, 1, 0, 0, 1);
        row(x, 8, 0, 1, 9, 8, 1);
        for (int house = 0; house < 5; house++) {
            x.leave(house, true);
        }
        row(x, 2, 1, 1, 1, 1, 1);
        row(x, 3, 1, 3, 3, 1, 4);
        row(x, 5, 2, 6, 10, 12, 17);
    }

    private static void aboutEdges() {
        MilkRound old = Check.round("h7,h0;2");
        row(old, 5, 8, 9);
        row(old, 6, 0, 1);
        MilkRound alone = Check.round("a0,a0;2");
        row(alone, 5, 4, 8);
        row(alone, 6, 0, 1);
        row(Check.round("a1,a0;2"), 6, 1, 1);
        row(Check.round("s0,w0;1"), 3, 0, 2);
        row(Check.round("b9,b8,b1,b0;1"), 3, 5, 4, 1, 0);
        row(Check.round("h0,h5;9"), 7, 0, 1);
        row(Check.round("h0,h4;9"), 7, 0, 0);
        MilkRound turned = Check.round("h5,h0;9");
        turned.swap(0, 1);
        row(turned, 5, 7, 1);
        row(turned, 7, 1, 0);
        check.due("count(6), the first one hears it", turned.count(6), 1);
        row(Check.round("h0,h4,h4;9"), 7, 0, 0, 0);
        row(Check.round("h0,a9;9"), 7, 0, 0);
        row(Check.round("a0,h5;9"), 7, 0, 1);
        MilkRound ends = Check.round("h0,h0,h9;9");
        ends.swap(1, 2);
        row(ends, 5, 1, 12, 11);
        row(ends, 7, 0, 1, 0);
    }

    private static void most() {
        row(Check.round("s0,h0;9"), 8, 9, 4);
        MilkRound x = Check.round("s9,h9;9");
        row(x, 8, 9, 4);
        row(x, 1, 9, 9);
        x.leave(1, true);
        row(x, 8, 9, 9);
        row(Check.round("h0,h0;1"), 8, 2, 2);
    }

    private static void aboutRefusals() {
        MilkRound x = Check.round("s0,h0;9");
        check.due("about(-1, 0)", x.about(-1, 0), MilkRound.UNKNOWN);
        check.due("about(2, 0)", x.about(2, 0), MilkRound.UNKNOWN);
        check.due("about(2, 9)", x.about(2, 9), MilkRound.UNKNOWN);
        check.due("about(1, 9)", x.about(1, 9), MilkRound.OUTSIDE);
        check.due("about(1, -1)", x.about(1, -1), MilkRound.OUTSIDE);
    }

    private static void as() {
        MilkRound x = Check.round("h0,s0,a0,b0,w0;1");
        for (int house = 0; house < 5; house++) {
            for (int kind = 0; kind < 5; kind++) {
                boolean such = kind == 0 || kind == house || house == 4 && kind == 1;
                check.due("as(" + house + ", " + kind + ")", x.as(house, kind), such ? house : MilkRound.NONE);
            }
        }
        check.due("as(5, 0)", x.as(5, 0), MilkRound.UNKNOWN);
        check.due("as(-1, 5)", x.as(-1, 5), MilkRound.UNKNOWN);
        check.due("as(0, 5)", x.as(0, 5), MilkRound.OUTSIDE);
        check.due("as(0, -1)", x.as(0, -1), MilkRound.OUTSIDE);
    }

    private static void letters() {
        MilkRound x = Check.round("h3,s4;9");
        check.due("letters(1, 9)", x.letters(1, 9), 4);
        check.due("letters(1, 0)", x.letters(1, 0), 9);
        check.due("letters(1, 2)", x.letters(1, 2), 0);
        row(x, 5, 4, 9);
        check.due("letters(0, 10)", x.letters(0, 10), MilkRound.OUTSIDE);
        check.due("letters(0, -1)", x.letters(0, -1), MilkRound.OUTSIDE);
        check.due("letters(2, 10)", x.letters(2, 10), MilkRound.UNKNOWN);
        check.due("letters(-1, 0)", x.letters(-1, 0), MilkRound.UNKNOWN);
        row(x, 1, 3, 2);
    }

    private static void leave() {
        MilkRound x = Check.round("h3,s4;9");
        check.due("leave(0, false)", x.leave(0, false), 0);
        check.due("leave(0, true)", x.leave(0, true), 0);
        check.due("leave(0, true) again", x.leave(0, true), 1);
        row(x, 2, 1, 0);
        row(x, 3, 1, 8);
        check.due("leave(1, true)", x.leave(1, true), 0);
        check.due("leave(0, false)", x.leave(0, false), 1);
        row(x, 2, 0, 1);
        check.due("leave(2, true)", x.leave(2, true), MilkRound.UNKNOWN);
        check.due("leave(-1, true)", x.leave(-1, true), MilkRound.UNKNOWN);
        check.due("leave(32, true)", x.leave(32, true), MilkRound.UNKNOWN);
        row(x, 2, 0, 1);
    }

    private static void swap() {
        MilkRound x = Check.round("h1,h2,h3;9");
        check.due("swap(0, 2)", x.swap(0, 2), 0);
        row(x, 4, 2, 1, 0);
        row(x, 5, 9, 7, 4);
        check.due("swap(0, 1)", x.swap(0, 1), 2);
        row(x, 4, 1, 2, 0);
        check.due("swap(1, 1)", x.swap(1, 1), 2);
        row(x, 4, 1, 2, 0);
        MilkRound six = Check.round("h0,h0,h0,h0,h0,h0;9");
        check.due("swap(4, 5)", six.swap(4, 5), 4);
        check.due("swap(4, 0)", six.swap(4, 0), 5);
        row(six, 4, 5, 1, 2, 3, 0, 4);
        check.due("swap(0, 3)", x.swap(0, 3), MilkRound.UNKNOWN);
        check.due("swap(3, 0)", x.swap(3, 0), MilkRound.UNKNOWN);
        check.due("swap(-1, -1)", x.swap(-1, -1), MilkRound.UNKNOWN);
        row(x, 4, 1, 2, 0);
    }

    private static void day() {
        MilkRound x = Check.round("h3,s3,a3,b3,w3;2");
        x.leave(2, true);
        x.swap(3, 4);
        row(x, 5, 4, 11, 15, 27, 24);
        row(x, 6, 0, 1, 1, 1, 1);
        row(x, 7, 0, 1, 0, 1, 0);
        check.due("day()", x.day(), 6);
        check.due("count(2)", x.count(2), 1);
        check.due("count(3)", x.count(3), 4);
        check.due("count(4)", x.count(4), 2);
        row(x, 1, 0, 0, 0, 1, 0);
        row(x, 2, 0, 0, 1, 0, 0);
        row(x, 4, 0, 1, 2, 4, 3);
        row(x, 5, 1, 2, 4, 9, 7);
        check.due("second day()", x.day(), 1);
        check.due("count(2)", x.count(2), 2);
        check.due("count(3)", x.count(3), 5);
        check.due("count(4)", x.count(4), 2);
        row(x, 1, 0, 0, 0, 0, 0);
    }

    private static void dayOfBad() {
        MilkRound x = Check.round("b9,h9;9");
        int[] left = {4, 2, 1, 0, 0};
        for (int length : left) {
            x.day();
            check.due("a bad one's letters", x.about(0, 1), length);
            check.due("a plain one's letters", x.about(1, 1), 0);
        }
    }
}
