/** What the tests share: it prints every call whose answer is not the one that is due, and ends with 1 if there was one. */
final class Check {
    private int asked = 0;
    private int wrong = 0;

    void due(String call, long got, long want) {
        asked++;
        if (got != want) {
            wrong++;
            System.out.println(call + " answered " + got + ", due is " + want);
        }
    }

    void end() {
        System.out.println(asked + " calls, " + wrong + " not as due");
        if (wrong != 0 || asked == 0) {
            System.exit(1);
        }
    }

    static void write(MilkRound x, String text) {
        for (int i = 0; i < text.length(); i++) {
            x.letter(text.charAt(i));
        }
    }

    static MilkRound page(String text) {
        MilkRound x = new MilkRound();
        write(x, text);
        return x;
    }

    static MilkRound round(String text) {
        MilkRound x = page(text);
        if (x.round() < 0) {
            throw new IllegalArgumentException(text + " is no round");
        }
        return x;
    }
}
