import java.util.Random;

/** Random runs of calls on MilkRound beside the model; a run stays below the 512 calls that are promised. */
public final class ModelTest {
    private static final Check check = new Check();
    private static final int RUNS = 300;
    private static final int CALLS = 480;

    private final String run;
    private final Random random;
    private final MilkRound x = new MilkRound();
    private final Model m = new Model();

    private ModelTest(int seed) {
        run = "run " + seed + ": ";
        random = new Random(seed);
    }

    public static void main(String[] args) {
        for (int seed = 0; seed < RUNS; seed++) {
            new ModelTest(seed).manyCalls();
        }
        check.end();
    }

    private void manyCalls() {
        int calls = 0;
        while (calls < CALLS) {
            calls += calls == 0 || random.nextInt(90) == 0 ? readAnother() : 1;
            oneCall(random.nextInt(22));
        }
        check.due(run + "digest()", x.digest(), m.digest());
    }

    private int readAnother() {
        String text = randomText();
        for (char sign : text.toCharArray()) {
            writeSign(sign);
        }
        check.due(run + "fault() of " + m.page, x.fault(), m.fault());
        check.due(run + "round() of " + m.page, x.round(), m.round());
        return text.length() + 2;
    }

    private void writeSign(int code) {
        check.due(run + "letter(" + code + ")", x.letter(code), m.letter(code));
    }

    private void oneCall(int which) {
        int house = random.nextInt(8) - 1;
        int other = random.nextInt(8) - 1;
        int what = random.nextInt(14) - 1;
        int few = random.nextInt(5) - 1;
        boolean out = random.nextBoolean();
        switch (which) {
            case 0: case 1: check.due(run + "about(" + house + ", " + what + ")", x.about(house, what), m.about(house, what)); break;
            case 2: check.due(run + "as(" + house + ", " + other + ")", x.as(house, other), m.as(house, other)); break;
            case 3: case 4: case 5: check.due(run + "letters(" + house + ", " + what + ")", x.letters(house, what), m.letters(house, what)); break;
            case 6: case 7: check.due(run + "leave(" + house + ", " + out + ")", x.leave(house, out), m.leave(house, out)); break;
            case 8: case 9: check.due(run + "swap(" + house + ", " + other + ")", x.swap(house, other), m.swap(house, other)); break;
            case 10: check.due(run + "day()", x.day(), m.day()); break;
            case 11: searchBest(random.nextInt(3) == 0 ? 0 : random.nextInt(10) + 8); break;
            case 12: case 13: tell(house); break;
            case 14: check.due(run + "sets(" + few + ")", x.sets(few), m.sets(few)); break;
            case 15: check.due(run + "ask()", x.ask(), m.ask()); break;
            case 16: tryWeeks(random.nextInt(64) - 1, random.nextInt(8) == 0 ? -1 : random.nextInt() & Integer.MAX_VALUE, few); break;
            case 17: check.due(run + "image()", x.image(), m.image()); break;
            case 18: check.due(run + "restore()", x.restore(), m.restore()); break;
            case 19: check.due(run + "count(" + what + ")", x.count(what), m.count(what)); break;
            case 20: check.due(run + "digest()", x.digest(), m.digest()); break;
            default: oneRarely(random.nextInt(4)); break;
        }
    }

    private void oneRarely(int which) {
        switch (which) {
            case 0: check.due(run + "forget()", x.forget(), m.forget()); break;
            case 1: check.due(run + "blank()", x.blank(), m.blank()); break;
            case 2: check.due(run + "fault()", x.fault(), m.fault()); break;
            default: writeSign(28 + random.nextInt(104)); break;
        }
    }

    private void searchBest(int what) {
        check.due(run + "best(" + what + ")", x.best(what), m.best(what));
    }

    private void tell(int house) {
        int minutes = random.nextInt(8) == 0 ? random.nextInt(155) - 1 : m.likelyMinutes(house, random.nextInt(64));
        check.due(run + "known(" + house + ", " + minutes + ")", x.known(house, minutes), m.known(house, minutes));
    }

    private void tryWeeks(int days, int seed, int what) {
        check.due(run + "weeks(" + days + ", " + seed + ", " + what + ")", x.weeks(days, seed, what), m.weeks(days, seed, what));
    }

    private String randomText() {
        StringBuilder text = new StringBuilder();
        int houses = 2 + random.nextInt(5);
        for (int house = 0; house < houses; house++) {
            text.append(house == 0 ? "" : ",").append("hsabw".charAt(random.nextInt(5))).append(random.nextInt(10));
        }
        text.append(';').append(1 + random.nextInt(9));
        if (random.nextInt(6) == 0) {
            text.setCharAt(random.nextInt(text.length()), "hsabw,;0123456789 x".charAt(random.nextInt(19)));
        }
        return text.toString();
    }
}
