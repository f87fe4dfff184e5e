/** Promises 18 to 21: image, restore, count, digest. */
public final class AllTest {
    private static final Check check = new Check();

    public static void main(String[] args) {
        imageAndRestore();
        oneImage();
        imageOfAnotherRound();
        count();
        digestWithoutRound();
        digestWithRound();
        check.end();
    }

    private static void imageAndRestore() {
        MilkRound x = Check.round("h0,w9,b7;1");
        x.day();
        x.letters(0, 4);
        x.leave(2, true);
        x.swap(0, 2);
        x.known(1, 6);
        check.due("image()", x.image(), 1);
        long before = x.digest();
        x.letters(1, 9);
        check.due("day() behind image()", x.day(), 3);
        x.letters(0, 5);
        x.leave(2, false);
        x.leave(1, true);
        x.swap(1, 2);
        x.forget();
        x.known(2, 7);
        x.known(2, 8);
        check.due("restore()", x.restore(), 1);
        check.due("digest() is as it was", x.digest(), before);
        check.due("days", x.count(2), 1);
        check.due("how often sour", x.count(3), 2);
        check.due("how often heard", x.count(4), 1);
        check.due("letters", x.about(0, 1), 4);
        check.due("left out", x.about(2, 2), 1);
        check.due("not left out", x.about(1, 2), 0);
        check.due("order", x.about(0, 4), 2);
        check.due("known", x.count(8), 1);
        x.day();
        check.due("restore() again", x.restore(), 1);
        check.due("digest() again", x.digest(), before);
        check.due("refused, no round", new MilkRound().image(), MilkRound.STATE);
    }

    private static void oneImage() {
        MilkRound x = Check.round("h0,h0;1");
        check.due("restore(), none kept", x.restore(), MilkRound.STATE);
        x.image();
        x.day();
        x.day();
        check.due("the latest image()", x.image(), 2);
        x.day();
        check.due("restore() of the latest", x.restore(), 2);
        x.letter(104);
        x.best(0);
        x.restore();
        check.due("the page is not of the image", x.count(9), 1);
        check.due("best() is not of the image", x.count(11), 1);
    }

    private static void imageOfAnotherRound() {
        MilkRound x = Check.round("h0,h0;1");
        x.image();
        Check.write(x, "h0");
        x.round();
        check.due("restore() behind a refused round", x.restore(), 0);
        Check.write(x, ",h0;1");
        x.round();
        check.due("restore() behind the same text", x.restore(), MilkRound.STATE);
        x.day();
        check.due("image() of the new one", x.image(), 1);
        check.due("restore() of the new one", x.restore(), 1);
    }

    private static void counts(MilkRound x, int... want) {
        for (int what = 0; what < want.length; what++) {
            check.due("count(" + what + ")", x.count(what), want[what]);
        }
    }

    private static void count() {
        MilkRound x = Check.round("h3,s3,a3,b3,w3;2");
        counts(x, 5, 2, 0, 0, 0, 4, 2, 30, 0, 0, 1, 0);
        x.day();
        x.best(0);
        x.known(0, 1);
        x.letter(104);
        x.letter(104);
        counts(x, 5, 2, 1, 4, 2, 2, 0, 11, 1, 2, 1, 1);
        check.due("count(12)", x.count(12), MilkRound.OUTSIDE);
        check.due("count(-1)", x.count(-1), MilkRound.OUTSIDE);
        check.due("count(12), no round", new MilkRound().count(12), MilkRound.OUTSIDE);
    }

    private static long fold(long h, long... numbers) {
        for (long number : numbers) {
            h = 31 * h + number;
        }
        return h;
    }

    private static void digestWithoutRound() {
        MilkRound x = new MilkRound();
        check.due("digest(), new", x.digest(), fold(1087, 0, 0, 0, 0, 0, 0, 0, 0, 0, 0, 0, 0));
        x.letter(104);
        x.letter(126);
        check.due("digest() of a page", x.digest(), fold(1087, 104, 126, 0, 0, 0, 0, 0, 0, 0, 0, 0, 2, 0, 0));
    }

    private static void digestWithRound() {
        MilkRound x = Check.round("h2,h4;9");
        x.letter(59);
        x.best(15);
        long h = fold(1087, 0, 2, 0, 2, 0, 3, 0, 0, 9);
        h = fold(h, 0, 4, 0, 4, 1, 8, 0, 0, 4);
        h = fold(h, 4, 0, 1);
        h = fold(h, 59);
        h = fold(h, 2, 9, 0, 0, 0, 0, 0, 8, 0, 1, 1, 1);
        check.due("digest() of a round", x.digest(), h);
        check.due("digest() changes nothing", x.digest(), h);
        x.known(0, 7);
        h = fold(1087, 0, 2, 0, 2, 0, 3, 0, 0, 9);
        h = fold(h, 0, 4, 0, 4, 1, 8, 0, 0, 4);
        h = fold(h, 0, -1, -1, 59, 2, 9, 0, 0, 0, 0, 0, 8, 1, 1, 1, 1);
        check.due("digest() of no set", x.digest(), h);
    }
}
