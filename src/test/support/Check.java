import java.util.function.Supplier;
import java.util.function.ToLongFunction;

/** What the tests share: it prints every call whose answer is not the one that is due, and ends with 1 if there was one. */
final class Check {
    private int asked = 0;
    private int wrong = 0;
    private int askedOfSentence = 0;
    private String sentence = "";

    /** What follows holds to these words of the document; a sentence that nothing is asked for is wrong, too. */
    void sentence(String words) {
        endSentence();
        sentence = words;
        askedOfSentence = 0;
    }

    void due(String call, long got, long want) {
        asked++;
        askedOfSentence++;
        if (got != want) {
            say(call + " answered " + got + ", due is " + want);
        }
    }

    /** A refusal: the answer is due, and the object then tells the same as one that never had the call. */
    void refused(String call, Supplier<MilkRound> made, ToLongFunction<MilkRound> asks, long want) {
        MilkRound touched = made.get();
        due(call, asks.applyAsLong(touched), want);
        States.due(this, call + " changes nothing: ", touched, made.get());
    }

    long asked() {
        return asked;
    }

    void end() {
        endSentence();
        System.out.println(asked + " calls, " + wrong + " not as due");
        if (wrong != 0 || asked == 0) {
            System.exit(1);
        }
    }

    private void endSentence() {
        if (!sentence.isEmpty() && askedOfSentence == 0) {
            say("nothing was asked");
        }
    }

    private void say(String words) {
        wrong++;
        System.out.println(sentence.isEmpty() ? words : "[" + sentence + "] " + words);
    }

    static void write(MilkRound x, String text) {
        for (int i = 0; i < text.length(); i++) {
            x.letter(text.charAt(i));
        }
    }

    static MilkRound page(String text) {
        MilkRound x = new MilkRound();
        write(x, text);
        return x;
    }

    static MilkRound round(String text) {
        MilkRound x = page(text);
        if (x.round() < 0) {
            throw new IllegalArgumentException(text + " is no round");
        }
        return x;
    }
}
