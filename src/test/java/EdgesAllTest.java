import java.math.BigInteger;
import java.util.ArrayList;
import java.util.List;

/** The edges of promises 18 to 21, a sentence each: image, restore, count, digest. */
public final class EdgesAllTest {
    private static final Check check = new Check();

    public static void main(String[] args) {
        imageTellsDays();
        imageKeepsOneTheLatest();
        imageKeepsWhatItKeeps();
        imageKeepsNoMore();
        imageOfTheFull();
        imageState();
        restoreTellsDays();
        restoreAgain();
        restoreNoneKept();
        restoreAnotherRound();
        countWithoutRound();
        countEach();
        countDays();
        countOutside();
        countChangesNothing();
        digestOfNone();
        digestOfThePage();
        digestWraps();
        digestOfSets();
        digestOfEachHouse();
        digestChangesNothing();
        check.end();
    }

    private static void imageTellsDays() {
        check.sentence("18 image: how many DAYS there were");
        MilkRound x = Check.round("h0,h0;1");
        for (int days = 0; days < 100; days++) {
            check.due("image() behind " + days, x.image(), days);
            x.day();
        }
    }

    private static void imageKeepsOneTheLatest() {
        check.sentence("18 image: An IMAGE is kept (one; the latest)");
        MilkRound x = Check.round("h0,h0;1");
        for (int length = 1; length <= 9; length++) {
            x.letters(0, length);
            x.image();
        }
        x.letters(0, 0);
        x.restore();
        check.due("letters of the latest", x.about(0, 1), 9);
        x.restore();
        check.due("no other stands behind it", x.about(0, 1), 9);
    }

    private static MilkRound changed() {
        MilkRound x = Check.round("h1,w2,b9;1");
        x.day();
        x.letters(0, 5);
        x.leave(1, true);
        x.swap(0, 2);
        x.known(2, 3);
        x.known(0, 9);
        return x;
    }

    private static void imageKeepsWhatItKeeps() {
        check.sentence("An IMAGE keeps LETTERS, the ORDER, what is LEFT OUT, DAYS, how often any were SOUR, any HEARD IT, what is KNOWN");
        MilkRound x = changed();
        x.image();
        x.letters(0, 9);
        x.letters(1, 9);
        x.letters(2, 9);
        check.due("much goes wrong", x.day() > 3 ? 1 : 0, 1);
        x.leave(0, true);
        x.leave(1, false);
        x.swap(1, 2);
        x.swap(0, 1);
        x.forget();
        x.known(1, 150);
        x.restore();
        MilkRound was = changed();
        was.image();
        States.due(check, "restore(): ", x, was);
        check.due("count(2)", x.count(2), 1);
        check.due("count(3)", x.count(3), 2);
        check.due("count(4)", x.count(4), 2);
        check.due("sets(0), left out at number 0 alone", x.sets(0), 1);
        check.due("sets(1), left out at number 0 alone", x.sets(1), 1);
        check.due("forget()", x.forget(), 2);
    }

    private static void imageKeepsNoMore() {
        check.sentence("An IMAGE keeps no letters of THE PAGE, not how often a ROUND was read, or best() was done");
        MilkRound x = changed();
        x.letter(104);
        x.best(0);
        x.image();
        x.letter(48);
        x.best(0);
        x.best(0);
        x.restore();
        check.due("count(9)", x.count(9), 2);
        check.due("fault()", x.fault(), 2);
        check.due("count(10)", x.count(10), 1);
        check.due("count(11)", x.count(11), 3);
        x.blank();
        x.restore();
        check.due("count(9) behind blank()", x.count(9), 0);
    }

    private static void imageOfTheFull() {
        check.sentence("An IMAGE keeps what is KNOWN, when it is empty, and when it is full");
        MilkRound x = Check.round("s1,s1;9");
        x.image();
        for (int i = 0; i < 6; i++) {
            x.known(1, 4);
        }
        x.restore();
        check.due("empty", x.count(8), 0);
        check.due("one more", x.known(0, 2), 1);
        for (int i = 0; i < 5; i++) {
            x.known(0, 2);
        }
        x.image();
        x.forget();
        x.known(0, 3);
        x.restore();
        check.due("full", x.count(8), 6);
        check.due("one more", x.known(0, 2), MilkRound.FULL);
        check.due("sets(1)", x.sets(1), 1);
        check.due("sets(0)", x.sets(0), 2);
    }

    private static void imageState() {
        check.sentence("18 image: STATE: no ROUND");
        check.refused("image(), new", MilkRound::new, MilkRound::image, MilkRound.STATE);
        check.refused("image() with a page", States::bare, MilkRound::image, MilkRound.STATE);
        check.refused("image() with a full page", States::bareAndFull, MilkRound::image, MilkRound.STATE);
        MilkRound x = new MilkRound();
        x.image();
        Check.write(x, "h0,h0;1");
        x.round();
        check.due("what was refused kept none: restore()", x.restore(), MilkRound.STATE);
    }

    private static void restoreTellsDays() {
        check.sentence("19 restore: It goes on from the IMAGE: how many DAYS there were");
        for (int days = 0; days <= 3; days++) {
            MilkRound x = Check.round("h0,h0;1");
            for (int day = 0; day < days; day++) {
                x.day();
            }
            x.image();
            x.day();
            x.day();
            check.due("restore()", x.restore(), days);
            check.due("count(2)", x.count(2), days);
            x.day();
            check.due("it goes on", x.count(2), days + 1);
        }
    }

    private static void restoreAgain() {
        check.sentence("19 restore: the IMAGE stays as it was kept");
        MilkRound x = changed();
        x.image();
        long was = x.digest();
        for (int again = 0; again < 3; again++) {
            check.due("restore()", x.restore(), 1);
            check.due("digest()", x.digest(), was);
            x.letters(0, 1);
            x.letters(1, 1);
            x.letters(2, 1);
            x.swap(0, 2);
            x.swap(1, 2);
            x.leave(0, true);
            x.leave(1, false);
            x.forget();
            x.known(0, 150);
            x.known(1, 150);
            x.known(2, 150);
            x.day();
        }
    }

    private static void restoreNoneKept() {
        check.sentence("19 restore: STATE: none was kept");
        check.refused("restore(), new", MilkRound::new, MilkRound::restore, MilkRound.STATE);
        check.refused("restore() with a page", States::bare, MilkRound::restore, MilkRound.STATE);
        check.refused("restore() with a round", EdgesAllTest::changed, MilkRound::restore, MilkRound.STATE);
    }

    private static MilkRound anotherSince() {
        MilkRound x = changed();
        x.image();
        Check.write(x, "h1,w2,b9;1");
        x.round();
        x.day();
        x.leave(2, true);
        return x;
    }

    private static void restoreAnotherRound() {
        check.sentence("19 restore: STATE: .. or there is another ROUND since");
        check.refused("restore() behind another one, of the same text", EdgesAllTest::anotherSince, MilkRound::restore, MilkRound.STATE);
        MilkRound x = changed();
        x.image();
        Check.write(x, "h1,w2,b9;");
        check.due("a refused round()", x.round(), MilkRound.STATE);
        check.due("restore() behind a refused one", x.restore(), 1);
        x.letter(49);
        check.due("round()", x.round(), 3);
        check.due("restore() behind another one", x.restore(), MilkRound.STATE);
        check.due("image() of the other one", x.image(), 0);
        check.due("restore() of the other one", x.restore(), 0);
    }

    private static void countWithoutRound() {
        check.sentence("20 count: 1 KEEP (0: no ROUND), and all else without one");
        MilkRound x = States.bare();
        for (int what = 0; what <= 11; what++) {
            check.due("count(" + what + ")", x.count(what), what == 9 ? 6 : 0);
        }
        for (int keep = 1; keep <= 9; keep++) {
            check.due("count(1)", Check.round("h0,h0;" + keep).count(1), keep);
        }
    }

    private static void countEach() {
        check.sentence("20 count: 0 HOUSES, 1 KEEP, 2 DAYS, 3 how often any were SOUR on these, 4 how often any HEARD IT, "
            + "5 how many would be SOUR now, 6 HEAR IT, 7 MINUTES of all the way, 8 what is KNOWN, 9 letters of THE PAGE, "
            + "10 how often a ROUND was read, 11 how often best() was done");
        // rich: a day with milk at 6, 13, 16 and KEEP 2; now in the order 1, 0, 2 milk at 12, 9, 15
        counts(States.rich(), 3, 2, 1, 2, 1, 3, 1, 15, 2, 3, 1, 1);
        counts(States.full(), 6, 7, 0, 0, 0, 2, 2, 37, 6, 21, 1, 30);
        counts(Check.round("h0,h0;1"), 2, 1, 0, 0, 0, 0, 0, 2, 0, 0, 1, 0);
        counts(Check.round("w9,w9,w9,w9,w9,w9;1"), 6, 1, 0, 0, 0, 6, 5, 126, 0, 0, 1, 0);
    }

    private static void counts(MilkRound x, int... due) {
        for (int what = 0; what <= 11; what++) {
            check.due("count(" + what + ")", x.count(what), due[what]);
        }
    }

    private static void countDays() {
        check.sentence("20 count: 3 how often any were SOUR on these, 4 how often any HEARD IT: each of them, on each DAY");
        MilkRound x = Check.round("h0,w9,h0;1");
        for (int days = 1; days <= 20; days++) {
            x.letters(1, 9);
            check.due("day()", x.day(), 3);
            check.due("count(2)", x.count(2), days);
            check.due("count(3)", x.count(3), 2 * days);
            check.due("count(4)", x.count(4), days);
        }
        // behind them milk comes at 1, 4 and 5
        check.due("would be sour now", x.count(5), 1);
        check.due("would hear it now", x.count(6), 0);
    }

    private static void countOutside() {
        check.sentence("20 count: OUTSIDE");
        for (int what : new int[] {-1, 12, 13, Integer.MIN_VALUE, Integer.MAX_VALUE}) {
            check.refused("count(" + what + "), new", MilkRound::new, x -> x.count(what), MilkRound.OUTSIDE);
            check.refused("count(" + what + ")", States::rich, x -> x.count(what), MilkRound.OUTSIDE);
            check.refused("count(" + what + ") of six", States::full, x -> x.count(what), MilkRound.OUTSIDE);
        }
    }

    private static void countChangesNothing() {
        check.sentence("20 count: it only tells");
        for (int what = 0; what <= 11; what++) {
            int asked = what;
            check.refused("count(" + what + ")", States::rich, x -> x.count(asked), States.rich().count(what));
        }
    }

    /** The sum without wrapping, then what a long holds of it. */
    private static long folded(List<Integer> numbers) {
        BigInteger h = BigInteger.valueOf(1087);
        for (int number : numbers) {
            h = h.multiply(BigInteger.valueOf(31)).add(BigInteger.valueOf(number));
        }
        BigInteger all = BigInteger.TWO.pow(64);
        BigInteger rest = h.mod(all);
        return (rest.testBit(63) ? rest.subtract(all) : rest).longValueExact();
    }

    private static List<Integer> numbers(int... some) {
        List<Integer> numbers = new ArrayList<>();
        for (int number : some) {
            numbers.add(number);
        }
        return numbers;
    }

    private static void digestOfNone() {
        check.sentence("21 digest: h is 1087, then .. 31 times h, and it; without a ROUND no sets(), no ASK");
        check.due("digest(), new", new MilkRound().digest(), folded(numbers(0, 0, 0, 0, 0, 0, 0, 0, 0, 0, 0, 0)));
        check.due("digest(), new, as a number", new MilkRound().digest(), 7639218587514215871L);
    }

    private static void digestOfThePage() {
        check.sentence("21 digest: letters of THE PAGE");
        String text = " ~h0,\"!}|{zyxwvutsrqp";
        for (int many = 0; many <= 21; many++) {
            List<Integer> due = new ArrayList<>();
            for (int place = 0; place < many; place++) {
                due.add((int) text.charAt(place));
            }
            due.addAll(numbers(0, 0, 0, 0, 0, 0, 0, 0, 0, many, 0, 0));
            check.due("digest() of " + many + " letters", Check.page(text.substring(0, many)).digest(), folded(due));
        }
    }

    private static void digestWraps() {
        check.sentence("21 digest: (as longs, wrapping)");
        // a page of one, two .. letters: some are below 0, some above, as h has gone round
        int below = 0;
        int above = 0;
        for (int many = 0; many <= 21; many++) {
            long digest = Check.page("h0,h0;h0,h0;h0,h0;h0,".substring(0, many)).digest();
            below += digest < 0 ? 1 : 0;
            above += digest > 0 ? 1 : 0;
        }
        check.due("some below 0", below > 0 ? 1 : 0, 1);
        check.due("some above 0", above > 0 ? 1 : 0, 1);
        check.due("with six houses", Check.round("w9,w9,w9,w9,w9,w9;1").digest(), folded(told(Check.round("w9,w9,w9,w9,w9,w9;1"), "")));
    }

    private static List<Integer> told(MilkRound x, String page) {
        List<Integer> all = new ArrayList<>();
        for (int house = 0; house < x.count(0); house++) {
            for (int what = 0; what <= 8; what++) {
                all.add(x.about(house, what));
            }
        }
        all.add(x.sets(0));
        all.add(x.sets(1));
        all.add(x.ask());
        page.chars().forEach(all::add);
        for (int what = 0; what <= 11; what++) {
            all.add(x.count(what));
        }
        return all;
    }

    private static void digestOfSets() {
        check.sentence("21 digest: with a ROUND what sets() tells for 0 and 1, ASK");
        MilkRound x = Check.round("h2,h4;9");
        List<Integer> due = numbers(0, 2, 0, 2, 0, 3, 0, 0, 9, 0, 4, 0, 4, 1, 8, 0, 0, 4, 4, 0, 1, 2, 9, 0, 0, 0, 0, 0, 8, 0, 0, 1, 0);
        check.due("digest(), nothing known", x.digest(), folded(due));
        x.known(1, 150);
        due = numbers(0, 2, 0, 2, 0, 3, 0, 0, 9, 0, 4, 0, 4, 1, 8, 0, 0, 4, 0, -1, -1, 2, 9, 0, 0, 0, 0, 0, 8, 1, 0, 1, 0);
        check.due("digest(), there are none", x.digest(), folded(due));
    }

    private static void digestOfEachHouse() {
        check.sentence("21 digest: of each HOUSE what about() tells for 0 to 8 .. what count() tells for 0 to 11");
        for (int many = 2; many <= 6; many++) {
            String text = "w9,b8,a7,s6,h5,w4".substring(0, 3 * many - 1) + ";" + many;
            MilkRound x = Check.round(text);
            x.swap(0, many - 1);
            x.leave(1, true);
            check.due("digest() of " + text, x.digest(), folded(told(x, "")));
        }
        check.due("digest() of the rich", States.rich().digest(), folded(told(States.rich(), "h7,")));
        check.due("digest() of the full", States.full().digest(), folded(told(States.full(), "h1,s2,a3,b4,w5,h6;789")));
    }

    private static void digestChangesNothing() {
        check.sentence("21 digest: it only tells");
        check.refused("digest()", States::rich, MilkRound::digest, States.rich().digest());
        check.refused("digest() of six", States::full, MilkRound::digest, States.full().digest());
    }
}
