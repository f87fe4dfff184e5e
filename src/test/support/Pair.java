/** The class and the model side by side: each call is made on both, counted, and the one answer held against the other. */
final class Pair {
    /** What the document promises an object for. */
    static final int MOST_CALLS = 512;

    final Model model = new Model();
    private final MilkRound x = new MilkRound();
    private final Check check;
    private final String run;
    private int calls = 0;

    Pair(Check check, String run) {
        this.check = check;
        this.run = run;
    }

    int callsLeft() {
        return MOST_CALLS - calls;
    }

    void write(String text) {
        for (char sign : text.toCharArray()) {
            letter(sign);
        }
    }

    int letter(int code) {
        return alike("letter(" + code + ")", x.letter(code), model.letter(code));
    }

    int blank() {
        return alike("blank()", x.blank(), model.blank());
    }

    int fault() {
        return alike("fault() of " + model.page, x.fault(), model.fault());
    }

    int round() {
        return alike("round() of " + model.page, x.round(), model.round());
    }

    int about(int house, int what) {
        return alike("about(" + house + ", " + what + ")", x.about(house, what), model.about(house, what));
    }

    int as(int house, int kind) {
        return alike("as(" + house + ", " + kind + ")", x.as(house, kind), model.as(house, kind));
    }

    int letters(int house, int length) {
        return alike("letters(" + house + ", " + length + ")", x.letters(house, length), model.letters(house, length));
    }

    int leave(int house, boolean out) {
        return alike("leave(" + house + ", " + out + ")", x.leave(house, out), model.leave(house, out));
    }

    int swap(int a, int b) {
        return alike("swap(" + a + ", " + b + ")", x.swap(a, b), model.swap(a, b));
    }

    int day() {
        return alike("day()", x.day(), model.day());
    }

    int best(int what) {
        return alike("best(" + what + ")", x.best(what), model.best(what));
    }

    int known(int house, int minutes) {
        return alike("known(" + house + ", " + minutes + ")", x.known(house, minutes), model.known(house, minutes));
    }

    int forget() {
        return alike("forget()", x.forget(), model.forget());
    }

    int sets(int what) {
        return alike("sets(" + what + ")", x.sets(what), model.sets(what));
    }

    int ask() {
        return alike("ask()", x.ask(), model.ask());
    }

    int weeks(int days, int seed, int what) {
        return alike("weeks(" + days + ", " + seed + ", " + what + ")", x.weeks(days, seed, what), model.weeks(days, seed, what));
    }

    int image() {
        return alike("image()", x.image(), model.image());
    }

    int restore() {
        return alike("restore()", x.restore(), model.restore());
    }

    int count(int what) {
        return alike("count(" + what + ")", x.count(what), model.count(what));
    }

    long digest() {
        return alikeLong("digest()", x.digest(), model.digest());
    }

    private int alike(String call, int got, int want) {
        return (int) alikeLong(call, got, want);
    }

    /** A test that asks more than is promised would hold the class to nothing, so it ends. */
    private long alikeLong(String call, long got, long want) {
        calls++;
        if (calls > MOST_CALLS) {
            throw new IllegalStateException(run + ": more than " + MOST_CALLS + " calls");
        }
        check.due(run + ", call " + calls + ": " + call, got, want);
        return got;
    }
}
