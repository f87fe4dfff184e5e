import java.math.BigInteger;
import java.util.ArrayList;
import java.util.HashMap;
import java.util.List;
import java.util.Map;
import java.util.TreeMap;

/** The document told a second time, slowly and with the library, sharing no code with MilkRound. */
final class Model {
    static final int NONE = -1, UNKNOWN = -101, OUTSIDE = -102, STATE = -103, FULL = -104;

    /** All that an image keeps. */
    static final class Past {
        List<Integer> lengths = new ArrayList<>();
        List<Integer> order = new ArrayList<>();
        List<Boolean> out = new ArrayList<>();
        List<int[]> known = new ArrayList<>();
        int days, sour, heard;

        Past copy() {
            Past copy = new Past();
            copy.lengths = new ArrayList<>(lengths);
            copy.order = new ArrayList<>(order);
            copy.out = new ArrayList<>(out);
            copy.known = new ArrayList<>(known);
            copy.days = days;
            copy.sour = sour;
            copy.heard = heard;
            return copy;
        }
    }

    String page = "";
    private String kinds = "";
    private int keep, rounds, bests;
    private Past past = new Past();
    private Past image;

    int letter(int code) {
        if (code < 32 || code > 126) {
            return OUTSIDE;
        }
        if (page.length() == 21) {
            return FULL;
        }
        page += (char) code;
        return page.length();
    }

    int blank() {
        int had = page.length();
        page = "";
        return had;
    }

    /** A text begins a round if some ending makes one of it. */
    int fault() {
        for (int length = 1; length <= page.length(); length++) {
            if (!beginsRound(page.substring(0, length))) {
                return length - 1;
            }
        }
        return page.length();
    }

    private static boolean isRound(String text) {
        return text.matches("[hsabw][0-9](,[hsabw][0-9]){1,5};[1-9]");
    }

    private static boolean beginsRound(String text) {
        String[] endings = {"", "1", ";1", "0;1", "h0;1", ",h0;1", "0,h0;1"};
        for (String ending : endings) {
            if (isRound(text + ending)) {
                return true;
            }
        }
        return false;
    }

    int round() {
        if (!isRound(page)) {
            return STATE;
        }
        String[] halves = page.split(";");
        keep = Integer.parseInt(halves[1]);
        kinds = "";
        past = new Past();
        image = null;
        for (String house : halves[0].split(",")) {
            past.order.add(kinds.length());
            past.out.add(false);
            past.lengths.add(Integer.parseInt(house.substring(1)));
            kinds += house.charAt(0);
        }
        page = "";
        rounds++;
        return kinds.length();
    }

    private boolean none(int house) {
        return house < 0 || house >= kinds.length();
    }

    private int minutesOfReading(int house, int length, boolean out) {
        double minutes = length;
        switch (kinds.charAt(house)) {
            case 's': minutes = length * 2; break;
            case 'a': minutes = length + 3; break;
            case 'b': minutes = Math.ceil(length / 2.0); break;
            case 'w': minutes = length * 2 + 2; break;
            default: break;
        }
        return (int) (out ? Math.floor(minutes / 2) : minutes);
    }

    /** When the milk comes to a house: all minutes of it and of those ahead of it. */
    private int comes(int house, Past p) {
        int minutes = 0;
        for (int ahead : p.order.subList(0, p.order.indexOf(house) + 1)) {
            minutes += 1 + minutesOfReading(ahead, p.lengths.get(ahead), p.out.get(ahead));
        }
        return minutes;
    }

    private int sour(int house, Past p) {
        return comes(house, p) > keep * (kinds.charAt(house) == 'a' ? 2 : 4) ? 1 : 0;
    }

    private int hears(int house, Past p) {
        int hears = 0;
        for (int beside = house - 1; beside <= house + 1; beside += 2) {
            if (!none(beside) && kinds.charAt(house) != 'a' && comes(beside, p) + 6 <= comes(house, p)) {
                hears = 1;
            }
        }
        return hears;
    }

    private int allSour(Past p) {
        int all = 0;
        for (int house = 0; house < kinds.length(); house++) {
            all += sour(house, p);
        }
        return all;
    }

    private int allHear(Past p) {
        int all = 0;
        for (int house = 0; house < kinds.length(); house++) {
            all += hears(house, p);
        }
        return all;
    }

    private int most(int house) {
        Map<Integer, Integer> wrongByLength = new HashMap<>();
        int most = 0;
        for (int length = 0; length <= 9; length++) {
            Past would = past.copy();
            would.lengths.set(house, length);
            wrongByLength.put(length, allSour(would) + allHear(would));
            if (wrongByLength.get(length) <= wrongByLength.get(0)) {
                most = length;
            }
        }
        return most;
    }

    int about(int house, int what) {
        if (none(house)) {
            return UNKNOWN;
        }
        switch (what) {
            case 0: return "hsabw".indexOf(kinds.charAt(house));
            case 1: return past.lengths.get(house);
            case 2: return past.out.get(house) ? 1 : 0;
            case 3: return minutesOfReading(house, past.lengths.get(house), past.out.get(house));
            case 4: return past.order.indexOf(house);
            case 5: return comes(house, past);
            case 6: return sour(house, past);
            case 7: return hears(house, past);
            case 8: return most(house);
            default: return OUTSIDE;
        }
    }

    int as(int house, int kind) {
        if (none(house)) {
            return UNKNOWN;
        }
        String[] such = {"hsabw", "sw", "a", "b", "w"};
        if (kind < 0 || kind >= such.length) {
            return OUTSIDE;
        }
        return such[kind].indexOf(kinds.charAt(house)) >= 0 ? house : NONE;
    }

    int letters(int house, int length) {
        if (none(house)) {
            return UNKNOWN;
        }
        return length < 0 || length > 9 ? OUTSIDE : past.lengths.set(house, length);
    }

    int leave(int house, boolean out) {
        if (none(house)) {
            return UNKNOWN;
        }
        return past.out.set(house, out) ? 1 : 0;
    }

    int swap(int a, int b) {
        if (none(a) || none(b)) {
            return UNKNOWN;
        }
        int first = past.order.indexOf(a);
        int second = past.order.indexOf(b);
        past.order.set(first, b);
        past.order.set(second, a);
        return first;
    }

    int day() {
        if (kinds.isEmpty()) {
            return STATE;
        }
        int sour = allSour(past);
        int heard = allHear(past);
        past.days++;
        past.sour += sour;
        past.heard += heard;
        for (int house = 0; house < kinds.length(); house++) {
            past.lengths.set(house, kinds.charAt(house) == 'b' ? past.lengths.get(house) / 2 : 0);
        }
        return sour + heard;
    }

    /** All orders by numbers, each in turn put behind what is chosen. */
    private void orders(List<Integer> chosen, List<List<Integer>> all) {
        if (chosen.size() == kinds.length()) {
            all.add(new ArrayList<>(chosen));
        }
        for (int house = 0; house < kinds.length(); house++) {
            if (!chosen.contains(house)) {
                chosen.add(house);
                orders(chosen, all);
                chosen.remove(chosen.size() - 1);
            }
        }
    }

    int best(int what) {
        if (what != 0 && (what < 10 || what > 15)) {
            return OUTSIDE;
        }
        if (kinds.isEmpty() || bests == 30) {
            return STATE;
        }
        bests++;
        List<List<Integer>> all = new ArrayList<>();
        orders(new ArrayList<>(), all);
        TreeMap<Integer, List<Integer>> firstByWrong = new TreeMap<>();
        for (List<Integer> order : all) {
            Past would = past.copy();
            would.order = order;
            firstByWrong.putIfAbsent(allSour(would) + allHear(would), order);
        }
        if (what == 0) {
            return firstByWrong.firstKey();
        }
        return what - 10 < kinds.length() ? firstByWrong.firstEntry().getValue().get(what - 10) : NONE;
    }

    int known(int house, int minutes) {
        if (none(house)) {
            return UNKNOWN;
        }
        if (minutes < 1 || minutes > 150) {
            return OUTSIDE;
        }
        if (past.known.size() == 6) {
            return FULL;
        }
        past.known.add(new int[] {house, minutes});
        return past.known.size();
    }

    int forget() {
        int had = past.known.size();
        past.known.clear();
        return had;
    }

    private Past leftOutAt(int set) {
        Past would = past.copy();
        for (int house = 0; house < kinds.length(); house++) {
            would.out.set(house, (set >> house) % 2 == 1);
        }
        return would;
    }

    private List<Integer> allSets() {
        List<Integer> all = new ArrayList<>();
        for (int set = 0; set < Math.pow(2, kinds.length()); set++) {
            Past would = leftOutAt(set);
            if (past.known.stream().allMatch(fact -> comes(fact[0], would) == fact[1])) {
                all.add(set);
            }
        }
        return all;
    }

    int sets(int what) {
        if (what != 0 && what != 1) {
            return OUTSIDE;
        }
        if (kinds.isEmpty()) {
            return STATE;
        }
        List<Integer> all = allSets();
        return what == 0 ? all.size() : all.stream().min(Integer::compare).orElse(NONE);
    }

    int ask() {
        if (kinds.isEmpty()) {
            return STATE;
        }
        List<Integer> all = allSets();
        int found = NONE;
        int least = all.isEmpty() ? 0 : all.size() + 1;
        for (int house = 0; house < kinds.length(); house++) {
            Map<Integer, Integer> left = new HashMap<>();
            for (int set : all) {
                left.merge(comes(house, leftOutAt(set)), 1, Integer::sum);
            }
            int worst = left.values().stream().max(Integer::compare).orElse(0);
            if (worst < least) {
                least = worst;
                found = house;
            }
        }
        return found;
    }

    /** When the milk would come to a house, had he left out at this set: what a test may tell as known. */
    int likelyMinutes(int house, int set) {
        return none(house) ? 1 : comes(house, leftOutAt(set));
    }

    int weeks(int days, int seed, int what) {
        if (days < 1 || days > 60 || seed < 0 || what < 0 || what > 2) {
            return OUTSIDE;
        }
        if (kinds.isEmpty()) {
            return STATE;
        }
        BigInteger next = BigInteger.valueOf(seed);
        int sour = 0;
        int hear = 0;
        for (int day = 0; day < days; day++) {
            Past would = past.copy();
            for (int house = 0; house < kinds.length(); house++) {
                next = next.multiply(BigInteger.valueOf(1103515245)).add(BigInteger.valueOf(12345)).mod(BigInteger.TWO.pow(31));
                would.lengths.set(house, next.divide(BigInteger.valueOf(65536)).mod(BigInteger.TEN).intValue());
            }
            sour += allSour(would);
            hear += allHear(would);
        }
        return what == 0 ? sour : what == 1 ? hear : next.intValueExact();
    }

    int image() {
        if (kinds.isEmpty()) {
            return STATE;
        }
        image = past.copy();
        return past.days;
    }

    int restore() {
        if (image == null) {
            return STATE;
        }
        past = image.copy();
        return past.days;
    }

    int count(int what) {
        switch (what) {
            case 0: return kinds.length();
            case 1: return keep;
            case 2: return past.days;
            case 3: return past.sour;
            case 4: return past.heard;
            case 5: return allSour(past);
            case 6: return allHear(past);
            case 7: return kinds.isEmpty() ? 0 : comes(past.order.get(kinds.length() - 1), past);
            case 8: return past.known.size();
            case 9: return page.length();
            case 10: return rounds;
            case 11: return bests;
            default: return OUTSIDE;
        }
    }

    long digest() {
        List<Integer> numbers = new ArrayList<>();
        for (int house = 0; house < kinds.length(); house++) {
            for (int what = 0; what <= 8; what++) {
                numbers.add(about(house, what));
            }
        }
        if (!kinds.isEmpty()) {
            numbers.addAll(List.of(sets(0), sets(1), ask()));
        }
        page.chars().forEach(numbers::add);
        for (int what = 0; what <= 11; what++) {
            numbers.add(count(what));
        }
        BigInteger h = BigInteger.valueOf(1087);
        for (int number : numbers) {
            h = h.multiply(BigInteger.valueOf(31)).add(BigInteger.valueOf(number));
        }
        return h.longValue();
    }
}
