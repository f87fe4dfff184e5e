import java.util.Random;

/** Random runs beside the model, each of all the 512 calls that are promised, none more. */
public final class ModelTest {
    private static final Check check = new Check();
    private static final int RUNS = 300;
    private static final int LONGEST_TEXT = 19;

    private final Random random;
    private final Pair pair;

    private ModelTest(int seed) {
        random = new Random(seed);
        pair = new Pair(check, "run " + seed);
    }

    public static void main(String[] args) {
        for (int seed = 0; seed < RUNS; seed++) {
            new ModelTest(seed).allCalls();
        }
        check.due("calls of all runs", check.asked(), (long) RUNS * Pair.MOST_CALLS);
        check.end();
    }

    private void allCalls() {
        readAnother();
        while (pair.callsLeft() > 1) {
            if (random.nextInt(90) == 0 && pair.callsLeft() > LONGEST_TEXT + 3) {
                readAnother();
            } else {
                oneCall(random.nextInt(22));
            }
        }
        pair.digest();
    }

    private void readAnother() {
        pair.write(randomText());
        pair.fault();
        pair.round();
    }

    private void oneCall(int which) {
        int house = random.nextInt(8) - 1;
        int other = random.nextInt(8) - 1;
        int what = random.nextInt(14) - 1;
        int few = random.nextInt(5) - 1;
        switch (which) {
            case 0: case 1: pair.about(house, what); break;
            case 2: pair.as(house, other); break;
            case 3: case 4: case 5: pair.letters(house, what); break;
            case 6: case 7: pair.leave(house, random.nextBoolean()); break;
            case 8: case 9: pair.swap(house, other); break;
            case 10: pair.day(); break;
            case 11: pair.best(random.nextInt(3) == 0 ? 0 : random.nextInt(10) + 8); break;
            case 12: case 13: pair.known(house, randomMinutes(house)); break;
            case 14: pair.sets(few); break;
            case 15: pair.ask(); break;
            case 16: pair.weeks(random.nextInt(64) - 1, randomSeed(), few); break;
            case 17: pair.image(); break;
            case 18: pair.restore(); break;
            case 19: pair.count(what); break;
            case 20: pair.digest(); break;
            default: oneRarely(random.nextInt(4)); break;
        }
    }

    private void oneRarely(int which) {
        switch (which) {
            case 0: pair.forget(); break;
            case 1: pair.blank(); break;
            case 2: pair.fault(); break;
            default: pair.letter(28 + random.nextInt(104)); break;
        }
    }

    /** Mostly minutes that can be, so that some sets are left. */
    private int randomMinutes(int house) {
        return random.nextInt(8) == 0 ? random.nextInt(155) - 1 : pair.model.likelyMinutes(house, random.nextInt(64));
    }

    private int randomSeed() {
        return random.nextInt(8) == 0 ? -1 : random.nextInt() & Integer.MAX_VALUE;
    }

    private String randomText() {
        StringBuilder text = new StringBuilder();
        int houses = 2 + random.nextInt(5);
        for (int house = 0; house < houses; house++) {
            text.append(house == 0 ? "" : ",").append("hsabw".charAt(random.nextInt(5))).append(random.nextInt(10));
        }
        text.append(';').append(1 + random.nextInt(9));
        if (random.nextInt(6) == 0) {
            text.setCharAt(random.nextInt(text.length()), "hsabw,;0123456789 x".charAt(random.nextInt(19)));
        }
        return text.toString();
    }
}
