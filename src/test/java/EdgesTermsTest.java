/** The edges that "What it is" and "Terms" name, a sentence each. */
public final class EdgesTermsTest {
    private static final Check check = new Check();
    private static final String KINDS = "hsabw";
    // by kind, then by how long the letters are, from 0 to 9
    private static final int[][] READS = {
        {0, 1, 2, 3, 4, 5, 6, 7, 8, 9},
        {0, 2, 4, 6, 8, 10, 12, 14, 16, 18},
        {3, 4, 5, 6, 7, 8, 9, 10, 11, 12},
        {0, 1, 1, 2, 2, 3, 3, 4, 4, 5},
        {2, 4, 6, 8, 10, 12, 14, 16, 18, 20},
    };
    private static final int[][] READS_LEFT_OUT = {
        {0, 0, 1, 1, 2, 2, 3, 3, 4, 4},
        {0, 1, 2, 3, 4, 5, 6, 7, 8, 9},
        {1, 2, 2, 3, 3, 4, 4, 5, 5, 6},
        {0, 0, 0, 1, 1, 1, 1, 2, 2, 2},
        {1, 2, 3, 4, 5, 6, 7, 8, 9, 10},
    };

    public static void main(String[] args) {
        twoToSixHouses();
        numberedFromNone();
        lettersOfTheText();
        keepOfTheText();
        kindsByTheLetter();
        byTheirNumbers();
        kindsOfKinds();
        oneMinuteOnTheWay();
        minutesByKind();
        leftOutIsHalf();
        sourIsOlder();
        sourAtAnAloneOne();
        hearsSixMinutes();
        hearsRightBeside();
        hearsNoneBehind();
        aloneHearsNothing();
        behindADay();
        bothCountTwice();
        likeOrders();
        lettersAndLeftOutAsTheyAre();
        mostFromNoneToNine();
        mostWhateverTheyAre();
        setsAsBits();
        askOfLikeOnes();
        draws();
        check.end();
    }

    private static String houses(int many) {
        return "h0,h0,h0,h0,h0,h0,h0".substring(0, 3 * many - 1);
    }

    private static void twoToSixHouses() {
        check.sentence("A ROUND is a text: two to six HOUSES");
        int[] due = {0, MilkRound.STATE, 2, 3, 4, 5, 6, MilkRound.STATE};
        for (int many = 1; many <= 6; many++) {
            check.due("round() of " + many, Check.page(houses(many) + ";1").round(), due[many]);
        }
        MilkRound seven = Check.page(houses(7) + ";");
        check.due("fault() of seven", seven.fault(), 17);
        check.due("round() of seven", seven.round(), due[7]);
        check.due("fault() of one", Check.page("h0;1").fault(), 2);
        check.due("round() of none", Check.page(";1").round(), MilkRound.STATE);
        check.due("fault() of none", Check.page(";1").fault(), 0);
    }

    private static void numberedFromNone() {
        check.sentence("HOUSES (numbered from 0, side by side)");
        for (int many = 2; many <= 6; many++) {
            MilkRound x = Check.round(houses(many) + ";1");
            check.due("the first of " + many, x.as(0, 0), 0);
            check.due("the last of " + many, x.as(many - 1, 0), many - 1);
            check.due("ahead of the first of " + many, x.as(-1, 0), MilkRound.UNKNOWN);
            check.due("behind the last of " + many, x.as(many, 0), MilkRound.UNKNOWN);
        }
    }

    private static void lettersOfTheText() {
        check.sentence("a digit, how long its LETTERS are (0 to 9)");
        for (int sign = 32; sign <= 126; sign++) {
            MilkRound x = Check.page("h0,s" + (char) sign + ";1");
            boolean digit = sign >= 48 && sign <= 57;
            check.due("fault() with sign " + sign, x.fault(), digit ? 7 : 4);
            check.due("round() with sign " + sign, x.round(), digit ? 2 : MilkRound.STATE);
            check.due("letters by sign " + sign, x.about(1, 1), digit ? sign - 48 : MilkRound.UNKNOWN);
        }
    }

    private static void keepOfTheText() {
        check.sentence("then ';' and a digit KEEP (1 to 9)");
        for (int sign = 32; sign <= 126; sign++) {
            MilkRound x = Check.page("h0,s0;" + (char) sign);
            boolean keep = sign >= 49 && sign <= 57;
            check.due("fault() with sign " + sign, x.fault(), keep ? 7 : 6);
            check.due("round() with sign " + sign, x.round(), keep ? 2 : MilkRound.STATE);
            check.due("KEEP by sign " + sign, x.count(1), keep ? sign - 48 : 0);
        }
    }

    private static void kindsByTheLetter() {
        check.sentence("KINDS are told by the letter: 0 HOUSE 'h', 1 SEA 's', 2 ALONE 'a', 3 BAD 'b', 4 WAR 'w'");
        for (int sign = 32; sign <= 126; sign++) {
            MilkRound x = Check.page("h0," + (char) sign + "0;1");
            int kind = KINDS.indexOf(sign);
            check.due("fault() with sign " + sign, x.fault(), kind >= 0 ? 7 : 3);
            check.due("round() with sign " + sign, x.round(), kind >= 0 ? 2 : MilkRound.STATE);
            check.due("KIND by sign " + sign, x.about(1, 0), kind >= 0 ? kind : MilkRound.UNKNOWN);
        }
    }

    private static void byTheirNumbers() {
        check.sentence("At first there is none; then he goes to them by their numbers, nothing is LEFT OUT");
        check.due("no house at first", new MilkRound().count(0), 0);
        MilkRound x = Check.round("w9,b9,a9,s9,h9,w0;1");
        for (int house = 0; house < 6; house++) {
            check.due("place of " + house, x.about(house, 4), house);
            check.due("left out at " + house, x.about(house, 2), 0);
        }
    }

    private static void kindsOfKinds() {
        check.sentence("All are HOUSES; a WAR is a SEA, too");
        MilkRound x = Check.round("h0,s0,a0,b0,w0;1");
        for (int house = 0; house < 5; house++) {
            check.due("as(" + house + ", 0)", x.as(house, 0), house);
        }
        check.due("a war as a sea", x.as(4, 1), 4);
        check.due("a sea as a war", x.as(1, 4), MilkRound.NONE);
        check.due("a house as a sea", x.as(0, 1), MilkRound.NONE);
    }

    private static void oneMinuteOnTheWay() {
        check.sentence("1 MINUTE on the way to each");
        MilkRound x = Check.round(houses(6) + ";9");
        for (int house = 0; house < 6; house++) {
            check.due("about(" + house + ", 5)", x.about(house, 5), house + 1);
        }
        check.due("count(7)", x.count(7), 6);
    }

    private static void minutesByKind() {
        check.sentence("as many MINUTES as its LETTERS are long; at a SEA twice as many; at an ALONE one 3 more; "
            + "at a BAD one half of it, rounded up; at a WAR 2 more than at a SEA");
        reads(false, READS);
    }

    private static void leftOutIsHalf() {
        check.sentence("Where it is LEFT OUT he reads half of that, rounded down");
        reads(true, READS_LEFT_OUT);
    }

    private static void reads(boolean out, int[][] due) {
        MilkRound x = Check.round("h0,s0,a0,b0,w0;9");
        for (int house = 0; house < 5; house++) {
            x.leave(house, out);
        }
        for (int length = 0; length <= 9; length++) {
            int minutes = 0;
            for (int house = 0; house < 5; house++) {
                x.letters(house, length);
                minutes += 1 + due[house][length];
                check.due("reads at " + house + " letters " + length + " long", x.about(house, 3), due[house][length]);
                check.due("comes to " + house + " with letters " + length + " long", x.about(house, 5), minutes);
            }
        }
    }

    /** A round where the milk comes to its last house but one at this minute; letters of that one are none, and left out. */
    private static MilkRound milkAt(char kind, int keep, int minute) {
        StringBuilder text = new StringBuilder();
        int rest = minute - 1 - READS_LEFT_OUT[KINDS.indexOf(kind)][0];
        while (rest > 0) {
            int length = Math.min(9, rest - 1);
            text.append('h').append(length).append(',');
            rest -= 1 + length;
        }
        int house = text.length() / 3;
        MilkRound x = Check.round(text.append(kind).append("0,h0;").append(keep).toString());
        x.leave(house, true);
        check.due("the milk comes to " + kind, x.about(house, 5), minute);
        return x;
    }

    private static void sourAt(char kind, int keep, int minute, int due) {
        MilkRound x = milkAt(kind, keep, minute);
        check.due(kind + " at " + minute + " with KEEP " + keep, x.about(x.count(0) - 2, 6), due);
    }

    private static void sourIsOlder() {
        check.sentence("It is SOUR, if it is OLDER than 4 times KEEP");
        for (int keep = 1; keep <= 9; keep++) {
            for (char kind : "hsbw".toCharArray()) {
                sourAt(kind, keep, 4 * keep - 1, 0);
                sourAt(kind, keep, 4 * keep, 0);
                sourAt(kind, keep, 4 * keep + 1, 1);
            }
        }
    }

    private static void sourAtAnAloneOne() {
        check.sentence("at an ALONE one, than 2 times KEEP");
        for (int keep = 1; keep <= 9; keep++) {
            sourAt('a', keep, 2 * keep, 0);
            sourAt('a', keep, 2 * keep + 1, 1);
        }
    }

    /** The house of this kind, number 2 or number 0, is last; the milk came to number 1 first, so many minutes ahead. */
    private static int hears(char kind, boolean atTheEnd, int ahead) {
        int length = ahead - 2 - READS[KINDS.indexOf(kind)][0];
        String text = atTheEnd ? "h" + length + ",h0," + kind + "0;9" : kind + "0,h0,h" + length + ";9";
        MilkRound x = Check.round(text);
        int house = atTheEnd ? 2 : 0;
        x.swap(1, 0);
        if (!atTheEnd) {
            x.swap(0, 2);
        }
        check.due("last in " + text, x.about(house, 4), 2);
        check.due("ahead in " + text, x.about(house, 5) - x.about(1, 5), ahead);
        return x.about(house, 7);
    }

    private static void hearsSixMinutes() {
        check.sentence("HEARS IT, if .. the MILK came 6 MINUTES, or more, ahead of its own");
        for (char kind : "hsbw".toCharArray()) {
            for (int ahead = 4; ahead <= 11; ahead++) {
                int due = ahead >= 6 ? 1 : 0;
                check.due(kind + " hears " + ahead + " from 1 less", hears(kind, true, ahead), due);
                check.due(kind + " hears " + ahead + " from 1 more", hears(kind, false, ahead), due);
            }
        }
    }

    private static void hearsRightBeside() {
        check.sentence("one right beside it (the number 1 less, or 1 more)");
        MilkRound x = Check.round("h0,h4,h4,h4,h4,h4;9");
        for (int house = 0; house < 6; house++) {
            check.due("two apart: about(" + house + ", 7)", x.about(house, 7), 0);
        }
        // beside in the order is not beside by number: milk at 1, 11, 6
        MilkRound turned = Check.round("h0,h4,h4;9");
        turned.swap(1, 2);
        check.due("the last in the order", turned.about(1, 5), 11);
        check.due("hears it from number 0", turned.about(1, 7), 1);
        check.due("number 2 is not beside number 0", turned.about(2, 7), 0);
        // the first and the last are not side by side: milk at 1, 10, 11 either way
        MilkRound ends = Check.round("h0,h8,h0;9");
        check.due("the last one, ten minutes behind the first", ends.about(2, 5) - ends.about(0, 5), 10);
        check.due("the last one hears nothing of the first", ends.about(2, 7), 0);
        ends.swap(0, 2);
        check.due("the first one, ten minutes behind the last", ends.about(0, 5) - ends.about(2, 5), 10);
        check.due("the first one hears nothing of the last", ends.about(0, 7), 0);
    }

    private static void hearsNoneBehind() {
        check.sentence("ahead of its own");
        MilkRound x = Check.round("h0,w9;9");
        check.due("the first in the order hears nothing", x.about(0, 7), 0);
        check.due("the second one hears it", x.about(1, 7), 1);
        x.swap(0, 1);
        check.due("the first in the order hears nothing, turned", x.about(1, 7), 0);
        check.due("one minute behind", x.about(0, 7), 0);
    }

    private static void aloneHearsNothing() {
        check.sentence("A HOUSE, but an ALONE one, HEARS IT");
        for (int ahead = 5; ahead <= 14; ahead++) {
            check.due("an alone one, " + ahead + " from 1 less", hears('a', true, ahead), 0);
            check.due("an alone one, " + ahead + " from 1 more", hears('a', false, ahead), 0);
        }
        check.due("from an alone one it is heard", Check.round("a0,h5;9").about(1, 7), 1);
    }

    private static void behindADay() {
        check.sentence("Behind a DAY all LETTERS are 0 long, but a BAD one's half as long as they were, rounded down; "
            + "what is LEFT OUT, and the ORDER, stay");
        int[] half = {0, 0, 1, 1, 2, 2, 3, 3, 4, 4};
        for (int length = 0; length <= 9; length++) {
            MilkRound x = Check.round("h0,s0,a0,b0,w0;9");
            for (int house = 0; house < 5; house++) {
                x.letters(house, length);
                x.leave(house, house % 2 == 1);
            }
            x.swap(0, 4);
            x.day();
            int[] order = {4, 1, 2, 3, 0};
            for (int house = 0; house < 5; house++) {
                check.due("letters of " + house + " were " + length, x.about(house, 1), house == 3 ? half[length] : 0);
                check.due("left out at " + house, x.about(house, 2), house % 2);
                check.due("place of " + house, x.about(house, 4), order[house]);
            }
        }
    }

    private static void bothCountTwice() {
        check.sentence("fewest are SOUR, and HEAR IT, together (who is both counts twice)");
        MilkRound x = Check.round("h0,w9;1");
        check.due("sour", x.about(1, 6), 1);
        check.due("hears it", x.about(1, 7), 1);
        check.due("best(0)", x.best(0), 2);
        check.due("best(10)", x.best(10), 0);
        check.due("day()", x.day(), 2);
        check.due("sour as it is, and hears it by five", Check.round("h0,h0,h0,h0,h0;1").about(4, 8), 4);
    }

    private static void likeOrders() {
        check.sentence("of like ones the first by numbers (the first HOUSE, then the second one, and so on)");
        for (int many = 2; many <= 6; many++) {
            MilkRound x = Check.round(houses(many) + ";9");
            x.swap(0, many - 1);
            for (int place = 0; place < many; place++) {
                check.due("all alike, place " + place + " of " + many, x.best(10 + place), place);
            }
        }
        // number 4 must come ahead of 3 and of 5, all else is alike
        MilkRound x = Check.round("h0,h0,h0,h0,h9,h0;9");
        int[] due = {4, 0, 1, 2, 3, 5};
        for (int place = 0; place < 6; place++) {
            check.due("one first, place " + place, x.best(10 + place), due[place]);
        }
        // number 5 must come ahead of 4, or hears it from there; then ahead of 3, or 4 hears it from 3; and so on
        MilkRound last = Check.round("h0,h0,h0,h0,h0,h5;9");
        int[] dueLast = {5, 0, 1, 2, 3, 4};
        for (int place = 0; place < 6; place++) {
            check.due("the last one first, place " + place, last.best(10 + place), dueLast[place]);
        }
    }

    private static void lettersAndLeftOutAsTheyAre() {
        check.sentence("LETTERS and what is LEFT OUT as they are");
        MilkRound x = Check.round("h0,h5;9");
        check.due("best(10)", x.best(10), 1);
        x.leave(1, true);
        check.due("best(10), left out", x.best(10), 0);
        x.letters(0, 0);
        x.letters(1, 9);
        check.due("best(10), left out, four minutes", x.best(10), 0);
        x.leave(1, false);
        x.letters(1, 4);
        check.due("best(10), four minutes", x.best(10), 0);
    }

    private static void mostFromNoneToNine() {
        check.sentence("MOST for a HOUSE: how long its LETTERS could be at most (0 to 9)");
        check.due("nothing else goes wrong by nine", Check.round("h0,h0;9").about(0, 8), 9);
        check.due("four minutes later are heard by none", Check.round("h0,h0;9").about(1, 8), 4);
        check.due("sour at once", Check.round("h2,h0,h0;1").about(1, 8), 0);
        check.due("sour as it is, so no more by nine", Check.round("a9,a9;1").about(0, 8), 9);
        // a left out one reads 0, 0, 1, 1 and so on, so the odd lengths are the last ones
        MilkRound x = Check.round("h0,h0;1");
        check.due("two more to four minutes", x.about(1, 8), 2);
        x.leave(1, true);
        check.due("two more to four minutes, left out", x.about(1, 8), 5);
        check.due("a bad one's", Check.round("h0,b0;1").about(1, 8), 4);
        check.due("a sea's", Check.round("h0,s0;1").about(1, 8), 1);
        check.due("a war's", Check.round("h0,w0;1").about(1, 8), 0);
    }

    private static void mostWhateverTheyAre() {
        check.sentence("all else as it is, so that no more are SOUR, and HEAR IT, together than if they were 0 long");
        MilkRound x = Check.round("h0,h0;1");
        for (int length = 0; length <= 9; length++) {
            x.letters(1, length);
            check.due("most, whatever they are", x.about(1, 8), 2);
            check.due("they stay as they are", x.about(1, 1), length);
        }
        x.letters(1, 0);
        x.letters(0, 2);
        check.due("another's are as they are", x.about(1, 8), 0);
        x.swap(0, 1);
        check.due("the order is as it is", x.about(1, 8), 0);
        x.letters(0, 0);
        check.due("the order is as it is, shorter", x.about(1, 8), 2);
    }

    private static void setsAsBits() {
        check.sentence("SETS of HOUSES where it can have been LEFT OUT (as bits), so that all that is KNOWN is so: how many; the least");
        for (int many = 2; many <= 6; many++) {
            for (int set = 0; set < 1 << many; set++) {
                MilkRound x = Check.round("s1,s1,s1,s1,s1,s1".substring(0, 3 * many - 1) + ";9");
                for (int house = 0; house < many; house++) {
                    x.leave(house, (set & 1 << house) != 0);
                }
                for (int house = 0; house < many; house++) {
                    x.known(house, x.about(house, 5));
                }
                check.due("sets(0) for " + set + " of " + many, x.sets(0), 1);
                check.due("sets(1) for " + set + " of " + many, x.sets(1), set);
            }
        }
    }

    private static void askOfLikeOnes() {
        check.sentence("fewest of these are left at worst: of like ones the least; none, if there are none");
        for (int many = 2; many <= 6; many++) {
            MilkRound x = Check.round(houses(many) + ";9");
            check.due("nobody can tell", x.ask(), 0);
            x.letters(many - 1, 9);
            check.due("the last one alone can tell", x.ask(), many - 1);
            x.letters(many - 1, 0);
            x.letters(0, 9);
            check.due("all can tell", x.ask(), 0);
            x.known(many - 1, 150);
            check.due("there are none", x.ask(), MilkRound.NONE);
        }
    }

    private static void draws() {
        check.sentence("DRAWS: the next SEED each time: 1103515245 times it and 12345, its rest by 2 to the 31; "
            + "then that by 65536 (rounded down), its rest");
        MilkRound x = Check.round("h0,h0;9");
        // 1103515245 times 2147483647 and 12345 is 1043980748 by the rest; with the next one 288979989
        check.due("the largest seed", x.weeks(1, 2147483647, 2), 288979989);
        check.due("the least seed", x.weeks(1, 0, 2), 1406932606);
        check.due("seed 1", x.weeks(1, 1, 2), 377401575);
        check.due("a seed goes on from day to day", x.weeks(2, 0, 2), 1449466924);
        // by 0 the draws are 0 and 8: milk at 1 and at 18
        MilkRound sea = Check.round("s0,s0;9");
        check.due("weeks(1, 0, 0)", sea.weeks(1, 0, 0), 0);
        check.due("weeks(1, 0, 1)", sea.weeks(1, 0, 1), 1);
        // all six draws are 0 by the one seed, and 9 by the other: milk at 1 to 6, and at 10 to 60
        MilkRound six = Check.round("h9,h9,h9,h9,h9,h9;1");
        check.due("all 0, sour", six.weeks(1, 755207, 0), 2);
        check.due("all 0, hear it", six.weeks(1, 755207, 1), 0);
        MilkRound none = Check.round(houses(6) + ";1");
        check.due("all 9, sour", none.weeks(1, 951464, 0), 6);
        check.due("all 9, hear it", none.weeks(1, 951464, 1), 5);
    }
}
