/** "An object is used for at most 512 calls": each call again and again, up to the 512th, beside the model and by hand. */
public final class LongRunsTest {
    private static final Check check = new Check();
    private static final String SIX = "w9,b9,a9,s9,h9,w8;9";

    public static void main(String[] args) {
        letterAndBlank();
        faultAndRefusedRound();
        manyRounds();
        aboutAndAs();
        lettersAndLeave();
        swaps();
        days();
        bests();
        knownAndForget();
        setsAndAsk();
        weeks();
        imageAndRestore();
        counts();
        digests();
        withoutRound();
        check.end();
    }

    private static Pair begin(String name, String text) {
        Pair pair = new Pair(check, name);
        pair.write(text);
        check.due(name + " begins", pair.round(), text.length() / 3);
        return pair;
    }

    /** The 512th call is digest(), so that all that the others left behind is told. */
    private static void end(Pair pair, String name) {
        pair.digest();
        check.due(name + ": calls left", pair.callsLeft(), 0);
    }

    private static void letterAndBlank() {
        Pair pair = begin("letter and blank", "h0,h0;1");
        for (int turn = 0; turn < 12; turn++) {
            for (int many = 1; many <= 40; many++) {
                check.due("letter " + many, pair.letter(32 + (turn * 40 + many) % 95), many <= 21 ? many : MilkRound.FULL);
            }
            check.due("blank()", pair.blank(), 21);
        }
        while (pair.callsLeft() > 1) {
            check.due("blank() of nothing", pair.blank(), 0);
        }
        end(pair, "letter and blank");
    }

    private static void faultAndRefusedRound() {
        Pair pair = begin("fault", "h0,h0;1");
        pair.write("s1,a2;0");
        while (pair.callsLeft() > 3) {
            check.due("fault()", pair.fault(), 6);
            check.due("round()", pair.round(), MilkRound.STATE);
        }
        check.due("count(0), the round of the beginning", pair.count(0), 2);
        check.due("count(10), the round of the beginning", pair.count(10), 1);
        end(pair, "fault");
    }

    private static void manyRounds() {
        Pair pair = new Pair(check, "rounds");
        for (int read = 1; read <= 63; read++) {
            pair.write("w9,b" + read % 10 + ";" + (1 + read % 9));
            check.due("round() " + read, pair.round(), 2);
        }
        check.due("count(10)", pair.count(10), 63);
        check.due("letters of the last one", pair.about(1, 1), 3);
        check.due("KEEP of the last one", pair.count(1), 1);
        for (int more = 0; more < 4; more++) {
            pair.day();
        }
        end(pair, "rounds");
    }

    private static void aboutAndAs() {
        Pair pair = begin("about", SIX);
        for (int turn = 0; turn < 5; turn++) {
            pair.leave(turn, true);
            for (int house = 0; house < 6; house++) {
                for (int what = 0; what <= 8; what++) {
                    pair.about(house, what);
                }
                for (int kind = 0; kind <= 4; kind++) {
                    pair.as(house, kind);
                }
            }
        }
        while (pair.callsLeft() > 1) {
            check.due("a war as a sea", pair.as(5, 1), 5);
        }
        end(pair, "about");
    }

    private static void lettersAndLeave() {
        Pair pair = begin("letters", "h0,s0,a0,b0,w0,h0;2");
        for (int turn = 0; pair.callsLeft() > 2; turn++) {
            int house = turn % 6;
            check.due("letters()", pair.letters(house, (turn / 6 + 1) % 10), turn / 6 % 10);
            check.due("leave()", pair.leave(house, turn / 6 % 2 == 0), turn / 6 % 2);
        }
        pair.letters(0, 9);
        end(pair, "letters");
    }

    private static void swaps() {
        Pair pair = begin("swap", SIX);
        // the first five of six change with the last one in turn: a way through all, again and again
        for (int turn = 0; pair.callsLeft() > 7; turn++) {
            pair.swap(turn % 5, 5);
        }
        int places = 0;
        for (int house = 0; house < 6; house++) {
            places |= 1 << pair.about(house, 4);
        }
        check.due("each place has one", places, 63);
        end(pair, "swap");
    }

    private static void days() {
        Pair pair = begin("day", "a9,a0,h0;1");
        // milk at 13, 17, 18 on the first day, then at 4, 8, 9: always older than 2 at the alone ones, than 4 at the last
        check.due("the first day()", pair.day(), 3);
        int all = 1;
        while (pair.callsLeft() > 4) {
            check.due("another day()", pair.day(), 3);
            all++;
        }
        check.due("days", all, 497);
        check.due("count(2)", pair.count(2), all);
        check.due("count(3)", pair.count(3), 3 * all);
        check.due("count(4)", pair.count(4), 0);
        end(pair, "day");
    }

    private static void bests() {
        Pair pair = begin("best", SIX);
        for (int done = 1; done <= 30; done++) {
            pair.leave(done % 6, done % 4 < 2);
            check.due("best() is done", pair.best(done % 7 == 0 ? 0 : 9 + done % 7) >= 0 ? 1 : 0, 1);
        }
        while (pair.callsLeft() > 2) {
            check.due("best() was done 30 times", pair.best(10), MilkRound.STATE);
        }
        check.due("count(11)", pair.count(11), 30);
        end(pair, "best");
    }

    private static void knownAndForget() {
        Pair pair = begin("known", SIX);
        for (int turn = 0; pair.callsLeft() > 12; turn++) {
            for (int much = 1; much <= 8; much++) {
                check.due("known()", pair.known(much % 6, 1 + (turn * 8 + much) % 150), much <= 6 ? much : MilkRound.FULL);
            }
            check.due("forget()", pair.forget(), 6);
        }
        while (pair.callsLeft() > 1) {
            pair.known(0, 21);
        }
        end(pair, "known");
    }

    private static void setsAndAsk() {
        Pair pair = begin("sets", SIX);
        for (int turn = 0; pair.callsLeft() > 9; turn++) {
            int house = turn % 6;
            pair.known(house, pair.model.likelyMinutes(house, turn % 64));
            pair.sets(0);
            pair.sets(1);
            pair.ask();
            if (turn % 3 == 2) {
                pair.forget();
            }
        }
        while (pair.callsLeft() > 1) {
            pair.ask();
        }
        end(pair, "sets");
    }

    private static void weeks() {
        Pair pair = begin("weeks", SIX);
        int seed = Integer.MAX_VALUE;
        while (pair.callsLeft() > 3) {
            pair.weeks(60, seed, 0);
            pair.weeks(60, seed, 1);
            seed = pair.weeks(60, seed, 2);
            check.due("the seed then is one", seed >= 0 ? 1 : 0, 1);
        }
        while (pair.callsLeft() > 1) {
            check.due("no day came of all these", pair.count(2), 0);
        }
        end(pair, "weeks");
    }

    private static void imageAndRestore() {
        Pair pair = begin("image", SIX);
        int days = 0;
        while (pair.callsLeft() > 9) {
            check.due("image()", pair.image(), days);
            pair.day();
            pair.swap(days % 6, 5);
            pair.leave(days % 6, true);
            check.due("restore()", pair.restore(), days);
            pair.letters(days % 6, days % 10);
            check.due("count(2)", pair.count(2), days);
            pair.day();
            days++;
        }
        while (pair.callsLeft() > 1) {
            check.due("restore() of the latest", pair.restore(), days - 1);
        }
        end(pair, "image");
    }

    private static void counts() {
        Pair pair = begin("count", SIX);
        for (int turn = 0; pair.callsLeft() > 13; turn++) {
            pair.letters(turn % 6, turn % 10);
            pair.day();
            for (int what = 0; what <= 11; what++) {
                pair.count(what);
            }
        }
        while (pair.callsLeft() > 1) {
            pair.day();
        }
        end(pair, "count");
    }

    private static void digests() {
        Pair pair = begin("digest", SIX);
        pair.write("h0,");
        long first = pair.digest();
        while (pair.callsLeft() > 1) {
            check.due("digest() again", pair.digest(), first);
        }
        end(pair, "digest");
    }

    private static void withoutRound() {
        Pair pair = new Pair(check, "no round");
        while (pair.callsLeft() > 14) {
            check.due("about()", pair.about(0, 0), MilkRound.UNKNOWN);
            check.due("as()", pair.as(0, 0), MilkRound.UNKNOWN);
            check.due("letters()", pair.letters(0, 0), MilkRound.UNKNOWN);
            check.due("leave()", pair.leave(0, true), MilkRound.UNKNOWN);
            check.due("swap()", pair.swap(0, 0), MilkRound.UNKNOWN);
            check.due("known()", pair.known(0, 1), MilkRound.UNKNOWN);
            check.due("day()", pair.day(), MilkRound.STATE);
            check.due("best()", pair.best(0), MilkRound.STATE);
            check.due("sets()", pair.sets(0), MilkRound.STATE);
            check.due("ask()", pair.ask(), MilkRound.STATE);
            check.due("weeks()", pair.weeks(1, 0, 0), MilkRound.STATE);
            check.due("image()", pair.image(), MilkRound.STATE);
            check.due("restore()", pair.restore(), MilkRound.STATE);
            check.due("round()", pair.round(), MilkRound.STATE);
        }
        while (pair.callsLeft() > 1) {
            check.due("forget()", pair.forget(), 0);
        }
        end(pair, "no round");
    }
}
