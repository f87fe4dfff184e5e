/**
 * The dairyman's round: he reads each house its letters before the milk comes, so the milk grows old on the way.
 * Every row is made in the constructor and used again, since all calls of a run share one room.
 */
public final class MilkRound {
    public static final int NONE = -1, UNKNOWN = -101, OUTSIDE = -102, STATE = -103, FULL = -104;

    private static final int MOST_HOUSES = 6;
    private static final int MOST_LENGTH = 9;
    private static final int MOST_KNOWN = 6;
    private static final int MOST_MINUTES = 150;
    private static final int MOST_SEARCHES = 30;
    private static final int MOST_DAYS = 60;
    private static final int ALL_ORDERS = 720;
    private static final int LAST_KIND = 4;
    private static final int LAST_OF_HOUSE = 8;
    private static final int LAST_COUNT = 11;
    private static final int FIRST_PLACE_ASKED = 10;

    private final Page page;
    private final Street street;
    private final Course now;
    private final Course kept;
    private final Walk walk;
    private final int[] trialLengths;
    private final int[] trialOrder;
    private final int[] bestOrder;
    private final Tally tally;
    private boolean hasImage;
    private int roundsRead;
    private int searches;

    public MilkRound() {
        page = new Page();
        street = new Street();
        now = new Course();
        kept = new Course();
        walk = new Walk(street);
        trialLengths = new int[MOST_HOUSES];
        trialOrder = new int[MOST_HOUSES];
        bestOrder = new int[MOST_HOUSES];
        tally = new Tally();
        hasImage = false;
        roundsRead = 0;
        searches = 0;
    }

    // ---- the round

    public int letter(int code) {
        if (code < Page.FIRST_CODE || code > Page.LAST_CODE) {
            return OUTSIDE;
        }
        return page.add((char) code) ? page.size : FULL;
    }

    public int blank() {
        int had = page.size;
        page.size = 0;
        return had;
    }

    public int fault() {
        return page.firstFault();
    }

    public int round() {
        if (!page.isWhole()) {
            return STATE;
        }
        street.settle(page);
        now.begin(page, street.size);
        page.size = 0;
        hasImage = false;
        roundsRead++;
        return street.size;
    }

    // ---- houses

    public int about(int house, int what) {
        if (!street.has(house)) {
            return UNKNOWN;
        }
        if (what < 0 || what > LAST_OF_HOUSE) {
            return OUTSIDE;
        }
        return toldOfHouse(house, what);
    }

    public int as(int house, int kind) {
        if (!street.has(house)) {
            return UNKNOWN;
        }
        if (kind < 0 || kind > LAST_KIND) {
            return OUTSIDE;
        }
        return isOfKind(street.houses[house], kind) ? house : NONE;
    }

    public int letters(int house, int length) {
        if (!street.has(house)) {
            return UNKNOWN;
        }
        if (length < 0 || length > MOST_LENGTH) {
            return OUTSIDE;
        }
        int were = now.lengths[house];
        now.lengths[house] = length;
        return were;
    }

    public int leave(int house, boolean out) {
        if (!street.has(house)) {
            return UNKNOWN;
        }
        int was = bitOf(now.leftOut, house);
        now.leftOut = out ? now.leftOut | 1 << house : now.leftOut & ~(1 << house);
        return was;
    }

    public int swap(int a, int b) {
        if (!street.has(a) || !street.has(b)) {
            return UNKNOWN;
        }
        int placeOfFirst = now.placeOf(a);
        exchange(now.order, placeOfFirst, now.placeOf(b));
        return placeOfFirst;
    }

    public int day() {
        if (hasNoRound()) {
            return STATE;
        }
        walkAsItIs();
        int sour = walk.sourHouses();
        int hearing = walk.hearingHouses();
        now.days++;
        now.soured += sour;
        now.heard += hearing;
        for (int house = 0; house < street.size; house++) {
            now.lengths[house] = street.houses[house].lengthBehindDay(now.lengths[house]);
        }
        return sour + hearing;
    }

    // ---- what would be

    public int best(int what) {
        int lastPlaceAsked = FIRST_PLACE_ASKED + MOST_HOUSES - 1;
        if (what != 0 && (what < FIRST_PLACE_ASKED || what > lastPlaceAsked)) {
            return OUTSIDE;
        }
        if (hasNoRound() || searches >= MOST_SEARCHES) {
            return STATE;
        }
        searches++;
        int fewest = findBestOrder();
        if (what == 0) {
            return fewest;
        }
        int place = what - FIRST_PLACE_ASKED;
        return place < street.size ? bestOrder[place] : NONE;
    }

    // ---- what is known

    public int known(int house, int minutes) {
        if (!street.has(house)) {
            return UNKNOWN;
        }
        if (minutes < 1 || minutes > MOST_MINUTES) {
            return OUTSIDE;
        }
        return now.learn(house, minutes) ? now.knownSize : FULL;
    }

    public int forget() {
        int had = now.knownSize;
        now.knownSize = 0;
        return had;
    }

    public int sets(int what) {
        if (what < 0 || what > 1) {
            return OUTSIDE;
        }
        if (hasNoRound()) {
            return STATE;
        }
        return what == 0 ? howManySets() : leastSet();
    }

    public int ask() {
        return hasNoRound() ? STATE : houseToAsk();
    }

    public int weeks(int days, int seed, int what) {
        if (days < 1 || days > MOST_DAYS || seed < 0 || what < 0 || what > 2) {
            return OUTSIDE;
        }
        if (hasNoRound()) {
            return STATE;
        }
        int seedThen = seed;
        int sour = 0;
        int hearing = 0;
        for (int passed = 0; passed < days; passed++) {
            seedThen = drawTrialLengths(seedThen);
            walk.go(trialLengths, now.order, now.leftOut);
            sour += walk.sourHouses();
            hearing += walk.hearingHouses();
        }
        if (what == 2) {
            return seedThen;
        }
        return what == 0 ? sour : hearing;
    }

    // ---- what is told of all

    public int image() {
        if (hasNoRound()) {
            return STATE;
        }
        kept.copyFrom(now);
        hasImage = true;
        return kept.days;
    }

    public int restore() {
        if (!hasImage) {
            return STATE;
        }
        now.copyFrom(kept);
        return now.days;
    }

    public int count(int what) {
        if (what < 0 || what > LAST_COUNT) {
            return OUTSIDE;
        }
        return toldOfAll(what);
    }

    public long digest() {
        long h = 1087L;
        for (int house = 0; house < street.size; house++) {
            for (int what = 0; what <= LAST_OF_HOUSE; what++) {
                h = 31L * h + toldOfHouse(house, what);
            }
        }
        if (!hasNoRound()) {
            h = 31L * h + howManySets();
            h = 31L * h + leastSet();
            h = 31L * h + houseToAsk();
        }
        for (int place = 0; place < page.size; place++) {
            h = 31L * h + page.signs[place];
        }
        for (int what = 0; what <= LAST_COUNT; what++) {
            h = 31L * h + toldOfAll(what);
        }
        return h;
    }

    // ---- behind the face

    private boolean hasNoRound() {
        return street.size == 0;
    }

    private void walkAsItIs() {
        walk.go(now.lengths, now.order, now.leftOut);
    }

    private int toldOfHouse(int house, int what) {
        walkAsItIs();
        switch (what) {
            case 0: return street.houses[house].kind();
            case 1: return now.lengths[house];
            case 2: return bitOf(now.leftOut, house);
            case 3: return street.reading(house, now.lengths[house], now.leftOut);
            case 4: return now.placeOf(house);
            case 5: return walk.came[house];
            case 6: return walk.isSour(house) ? 1 : 0;
            case 7: return walk.hears(house) ? 1 : 0;
            default: return longestHarmless(house);
        }
    }

    private int toldOfAll(int what) {
        walkAsItIs();
        switch (what) {
            case 0: return street.size;
            case 1: return street.keep;
            case 2: return now.days;
            case 3: return now.soured;
            case 4: return now.heard;
            case 5: return walk.sourHouses();
            case 6: return walk.hearingHouses();
            case 7: return walk.minutesOfAll;
            case 8: return now.knownSize;
            case 9: return page.size;
            case 10: return roundsRead;
            default: return searches;
        }
    }

    private static boolean isOfKind(House house, int kind) {
        switch (kind) {
            case 0: return true;
            case 1: return house instanceof Sea;
            case 2: return house instanceof Alone;
            case 3: return house instanceof Bad;
            default: return house instanceof War;
        }
    }

    private int longestHarmless(int house) {
        System.arraycopy(now.lengths, 0, trialLengths, 0, MOST_HOUSES);
        trialLengths[house] = 0;
        walk.go(trialLengths, now.order, now.leftOut);
        int wrongWithNone = walk.wrongs();
        for (int length = MOST_LENGTH; length > 0; length--) {
            trialLengths[house] = length;
            walk.go(trialLengths, now.order, now.leftOut);
            if (walk.wrongs() <= wrongWithNone) {
                return length;
            }
        }
        return 0;
    }

    /** Goes through all orders by numbers and keeps the first of the best ones in bestOrder. */
    private int findBestOrder() {
        for (int place = 0; place < MOST_HOUSES; place++) {
            trialOrder[place] = place;
        }
        int fewest = 2 * MOST_HOUSES + 1;
        boolean more = true;
        for (int tried = 0; more && tried < ALL_ORDERS; tried++) {
            walk.go(now.lengths, trialOrder, now.leftOut);
            int wrong = walk.wrongs();
            if (wrong < fewest) {
                fewest = wrong;
                System.arraycopy(trialOrder, 0, bestOrder, 0, MOST_HOUSES);
            }
            more = advance(trialOrder, street.size);
        }
        return fewest;
    }

    /** Makes of an order the next one by numbers; false where it was the last. */
    private static boolean advance(int[] order, int size) {
        int turn = size - 2;
        while (turn >= 0 && order[turn] > order[turn + 1]) {
            turn--;
        }
        if (turn < 0) {
            return false;
        }
        int next = size - 1;
        while (next > turn + 1 && order[next] < order[turn]) {
            next--;
        }
        exchange(order, turn, next);
        int right = size - 1;
        for (int left = turn + 1; left < right; left++) {
            exchange(order, left, right);
            right--;
        }
        return true;
    }

    private static void exchange(int[] row, int a, int b) {
        int first = row[a];
        row[a] = row[b];
        row[b] = first;
    }

    private static int bitOf(int bits, int place) {
        return bits >> place & 1;
    }

    /** Whether all that is known is so, had he left out at this set of houses; leaves that walk behind. */
    private boolean canHaveBeen(int set) {
        walk.go(now.lengths, now.order, set);
        for (int i = 0; i < now.knownSize; i++) {
            int house = now.knownHouses[i];
            if (!street.has(house) || walk.came[house] != now.knownMinutes[i]) {
                return false;
            }
        }
        return true;
    }

    private int howManySets() {
        int many = 0;
        for (int set = 0; set < 1 << street.size; set++) {
            if (canHaveBeen(set)) {
                many++;
            }
        }
        return many;
    }

    private int leastSet() {
        for (int set = 0; set < 1 << street.size; set++) {
            if (canHaveBeen(set)) {
                return set;
            }
        }
        return NONE;
    }

    private int houseToAsk() {
        tally.clear();
        boolean any = false;
        for (int set = 0; set < 1 << street.size; set++) {
            if (canHaveBeen(set)) {
                any = true;
                tally.add(walk.came, street.size);
            }
        }
        return any ? tally.houseOfLeastWorst(street.size) : NONE;
    }

    /** Draws how long the letters of each house are; answers the seed behind the last draw. */
    private int drawTrialLengths(int seed) {
        long drawn = seed;
        for (int house = 0; house < street.size; house++) {
            drawn = (1103515245L * drawn + 12345L) % 2147483648L;
            trialLengths[house] = (int) (drawn / 65536L % 10L);
        }
        return (int) drawn;
    }

    // ---- kinds of houses

    private static class House {
        int kind() {
            return 0;
        }

        int minutesFor(int length) {
            return length;
        }

        int timesKeep() {
            return 4;
        }

        boolean listens() {
            return true;
        }

        int lengthBehindDay(int length) {
            return 0;
        }
    }

    private static class Sea extends House {
        int kind() {
            return 1;
        }

        int minutesFor(int length) {
            return 2 * length;
        }
    }

    private static final class Alone extends House {
        int kind() {
            return 2;
        }

        int minutesFor(int length) {
            return length + 3;
        }

        int timesKeep() {
            return 2;
        }

        boolean listens() {
            return false;
        }
    }

    private static final class Bad extends House {
        int kind() {
            return 3;
        }

        int minutesFor(int length) {
            return (length + 1) / 2;
        }

        int lengthBehindDay(int length) {
            return length / 2;
        }
    }

    private static final class War extends Sea {
        int kind() {
            return 4;
        }

        int minutesFor(int length) {
            return super.minutesFor(length) + 2;
        }
    }

    // ---- parts

    /** The page: letters of a text that may become a round. A round has its signs by threes: kind, digit, mark. */
    private static final class Page {
        static final int FIRST_CODE = 32;
        static final int LAST_CODE = 126;
        static final int MOST_SIGNS = 21;
        static final String KIND_SIGNS = "hsabw";

        final char[] signs = new char[MOST_SIGNS];
        int size = 0;

        boolean add(char sign) {
            if (size >= MOST_SIGNS) {
                return false;
            }
            signs[size] = sign;
            size++;
            return true;
        }

        int firstFault() {
            boolean closed = false;
            for (int place = 0; place < size; place++) {
                if (!fits(place, signs[place], closed)) {
                    return place;
                }
                closed = closed || signs[place] == ';';
            }
            return size;
        }

        /** Behind signs that fit, only KEEP can follow the ';', so a ';' last but one means that the text is whole. */
        boolean isWhole() {
            return size >= 2 && signs[size - 2] == ';' && firstFault() == size;
        }

        int houses() {
            return size / 3;
        }

        char kindSignAt(int house) {
            return signs[3 * house];
        }

        int lengthAt(int house) {
            return signs[3 * house + 1] - '0';
        }

        int keepAtEnd() {
            return signs[size - 1] - '0';
        }

        private static boolean fits(int place, char sign, boolean closed) {
            boolean digit = sign >= '0' && sign <= '9';
            switch (place % 3) {
                case 0: return closed ? digit && sign != '0' : KIND_SIGNS.indexOf(sign) >= 0;
                case 1: return digit && !closed;
                default: return isMarkBehind(place / 3 + 1, sign);
            }
        }

        private static boolean isMarkBehind(int houses, char sign) {
            return sign == ',' && houses < MOST_HOUSES || sign == ';' && houses >= 2;
        }
    }

    /** What a round says once and for all: which houses stand side by side, and how long milk keeps. */
    private static final class Street {
        final House plain = new House();
        final House sea = new Sea();
        final House alone = new Alone();
        final House bad = new Bad();
        final House war = new War();
        final House[] houses = {plain, plain, plain, plain, plain, plain};
        int size = 0;
        int keep = 0;

        void settle(Page page) {
            size = page.houses();
            keep = page.keepAtEnd();
            for (int house = 0; house < size; house++) {
                houses[house] = houseOf(page.kindSignAt(house));
            }
        }

        /** Houses of a kind are one object, as what differs between them is held in the course. */
        private House houseOf(char sign) {
            switch (sign) {
                case 's': return sea;
                case 'a': return alone;
                case 'b': return bad;
                case 'w': return war;
                default: return plain;
            }
        }

        boolean has(int house) {
            return house >= 0 && house < size;
        }

        int reading(int house, int length, int leftOut) {
            int whole = houses[house].minutesFor(length);
            return bitOf(leftOut, house) == 1 ? whole / 2 : whole;
        }
    }

    /** What changes from call to call, and what an image keeps. */
    private static final class Course {
        final int[] lengths = new int[MOST_HOUSES];
        final int[] order = new int[MOST_HOUSES];
        final int[] knownHouses = new int[MOST_KNOWN];
        final int[] knownMinutes = new int[MOST_KNOWN];
        int knownSize = 0;
        int leftOut = 0;
        int days = 0;
        int soured = 0;
        int heard = 0;

        void begin(Page page, int size) {
            for (int house = 0; house < size; house++) {
                lengths[house] = page.lengthAt(house);
                order[house] = house;
            }
            knownSize = 0;
            leftOut = 0;
            days = 0;
            soured = 0;
            heard = 0;
        }

        void copyFrom(Course other) {
            System.arraycopy(other.lengths, 0, lengths, 0, MOST_HOUSES);
            System.arraycopy(other.order, 0, order, 0, MOST_HOUSES);
            System.arraycopy(other.knownHouses, 0, knownHouses, 0, MOST_KNOWN);
            System.arraycopy(other.knownMinutes, 0, knownMinutes, 0, MOST_KNOWN);
            knownSize = other.knownSize;
            leftOut = other.leftOut;
            days = other.days;
            soured = other.soured;
            heard = other.heard;
        }

        int placeOf(int house) {
            int place = 0;
            while (place < MOST_HOUSES - 1 && order[place] != house) {
                place++;
            }
            return place;
        }

        boolean learn(int house, int minutes) {
            if (knownSize >= MOST_KNOWN) {
                return false;
            }
            knownHouses[knownSize] = house;
            knownMinutes[knownSize] = minutes;
            knownSize++;
            return true;
        }
    }

    /** One way through the houses, as it is or as it would be: when the milk came, and what went wrong. */
    private static final class Walk {
        static final int NEWS_TAKES = 6;

        final Street street;
        final int[] came = new int[MOST_HOUSES];
        int minutesOfAll = 0;

        Walk(Street street) {
            this.street = street;
        }

        void go(int[] lengths, int[] order, int leftOut) {
            int minutes = 0;
            for (int place = 0; place < street.size; place++) {
                int house = order[place];
                if (street.has(house)) {
                    minutes += 1 + street.reading(house, lengths[house], leftOut);
                    came[house] = minutes;
                }
            }
            minutesOfAll = minutes;
        }

        boolean isSour(int house) {
            return came[house] > street.houses[house].timesKeep() * street.keep;
        }

        boolean hears(int house) {
            return street.houses[house].listens() && (isAhead(house - 1, house) || isAhead(house + 1, house));
        }

        private boolean isAhead(int beside, int house) {
            return beside >= 0 && beside < street.size && came[house] - came[beside] >= NEWS_TAKES;
        }

        int sourHouses() {
            int many = 0;
            for (int house = 0; house < street.size; house++) {
                if (isSour(house)) {
                    many++;
                }
            }
            return many;
        }

        int hearingHouses() {
            int many = 0;
            for (int house = 0; house < street.size; house++) {
                if (hears(house)) {
                    many++;
                }
            }
            return many;
        }

        int wrongs() {
            return sourHouses() + hearingHouses();
        }
    }

    /** How many sets are left for each answer of each house, and the most of them for each house. */
    private static final class Tally {
        final int[][] left = new int[MOST_HOUSES][MOST_MINUTES + 1];
        final int[] worst = new int[MOST_HOUSES];

        void clear() {
            for (int house = 0; house < MOST_HOUSES; house++) {
                worst[house] = 0;
                for (int minutes = 0; minutes <= MOST_MINUTES; minutes++) {
                    left[house][minutes] = 0;
                }
            }
        }

        void add(int[] came, int size) {
            for (int house = 0; house < size; house++) {
                int minutes = came[house];
                if (minutes >= 0 && minutes <= MOST_MINUTES) {
                    left[house][minutes]++;
                    worst[house] = Math.max(worst[house], left[house][minutes]);
                }
            }
        }

        int houseOfLeastWorst(int size) {
            int found = 0;
            for (int house = 1; house < size; house++) {
                if (worst[house] < worst[found]) {
                    found = house;
                }
            }
            return found;
        }
    }
}
