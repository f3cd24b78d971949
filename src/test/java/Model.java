import java.util.ArrayList;
import java.util.Arrays;
import java.util.HashSet;
import java.util.List;
import java.util.Set;
import java.util.regex.Matcher;
import java.util.regex.Pattern;

/** The document once more, written as plainly as the Java library allows, to be compared with. */
final class Model {
    static final int BAD = -1, STATE = -2, FULL = -3, NONE = -9, NO = -1000000;

    /** A told house: what does not change until the next text. */
    private static final class Told {
        final List<String> sorts = new ArrayList<>();
        final List<Integer> places = new ArrayList<>();
        final List<Set<Integer>> beams = new ArrayList<>();
        final Set<Integer> rain = new HashSet<>();
        final Set<Integer> sun = new HashSet<>();
        int view = NONE;
        int noise = NONE;
        int down = 3;
        int hands = 2;
    }

    private static final class Now {
        List<Integer> house = new ArrayList<>();
        int day;
        int acts;
        int leaks;
        List<int[]> clues = new ArrayList<>();

        Now copy() {
            Now other = new Now();
            other.house = house;
            other.day = day;
            other.acts = acts;
            other.leaks = leaks;
            other.clues = new ArrayList<>(clues);
            return other;
        }
    }

    private static final Pattern TOKEN = Pattern.compile("\\G *([a-z]+|[0-9]+|;)");
    private static final List<String> SORTS = List.of("wall", "glass", "curtain", "rotten");

    private String text = "";
    private Told told = new Told();
    private Now now = new Now();
    private final Now[] images = new Now[2];
    private long trace;

    // ---- the house.

    int type(long v, int n) {
        if (n < 1 || n > 8) {
            return BAD;
        }
        if (text.length() + n > 200) {
            return FULL;
        }
        StringBuilder bytes = new StringBuilder();
        for (int i = 0; i < n; i++) {
            bytes.insert(0, (char) (v & 255));
            v >>>= 8;
        }
        text += bytes;
        return text.length();
    }

    int clear() {
        int had = text.length();
        text = "";
        return had;
    }

    int house() {
        List<String> words = new ArrayList<>();
        List<Integer> places = new ArrayList<>();
        Matcher m = TOKEN.matcher(text);
        int end = 0;
        while (m.find()) {
            words.add(m.group(1));
            places.add(m.start(1));
            end = m.end();
        }
        while (end < text.length() && text.charAt(end) == ' ') {
            end++;
        }
        // Either the byte that begins no TOKEN, or the text's length.
        words.add(end < text.length() ? "?" : "");
        places.add(end);
        Told next = new Told();
        int items = 0;
        int i = 0;
        Set<String> once = new HashSet<>();
        while (!words.get(i).isEmpty()) {
            String word = words.get(i);
            if (!mayStand(word, next, once)) {
                return -10 - places.get(i);
            }
            i++;
            int a = numberIn(words.get(i));
            boolean panel = SORTS.contains(word);
            int least = word.equals("hands") ? 1 : 0;
            int most = panel ? 8 : word.equals("hands") ? 9 : word.equals("down") ? 4 : 7;
            if (a < least || a > most || panel && a != 8 && next.places.contains(a)) {
                return -10 - places.get(i);
            }
            i++;
            int n = 0;
            if (List.of("beam", "rain", "sun").contains(word)) {
                n = numberIn(words.get(i));
                if (n < 1 || n > 8) {
                    return -10 - places.get(i);
                }
                i++;
            }
            if (!words.get(i).equals(";")) {
                return -10 - places.get(i);
            }
            i++;
            items++;
            once.add(word);
            tell(next, word, a, n);
        }
        told = next;
        now = new Now();
        now.house = next.places;
        images[0] = null;
        images[1] = null;
        text = "";
        return items;
    }

    private static boolean mayStand(String word, Told next, Set<String> once) {
        if (SORTS.contains(word)) {
            return next.sorts.size() < 4;
        }
        if (word.equals("beam")) {
            return next.beams.size() < 2;
        }
        if (word.equals("rain") || word.equals("sun")) {
            return true;
        }
        return List.of("view", "noise", "down", "hands").contains(word) && !once.contains(word);
    }

    private static int numberIn(String word) {
        return word.matches("0|[1-9][0-9]?") ? Integer.parseInt(word) : -1;
    }

    private static void tell(Told next, String word, int a, int n) {
        Set<Integer> slots = new HashSet<>();
        for (int i = 0; i < n; i++) {
            slots.add((a + i) % 8);
        }
        switch (word) {
            case "beam" -> next.beams.add(slots);
            case "rain" -> next.rain.addAll(slots);
            case "sun" -> next.sun.addAll(slots);
            case "view" -> next.view = a;
            case "noise" -> next.noise = a;
            case "down" -> next.down = a;
            case "hands" -> next.hands = a;
            default -> {
                next.sorts.add(word);
                next.places.add(a);
            }
        }
    }

    private boolean isPanel(int p) {
        return p >= 0 && p < told.sorts.size();
    }

    private static boolean isSlot(int k) {
        return k >= 0 && k < 8;
    }

    int panel(int p, int what) {
        if (!isPanel(p) || what < 0 || what > 1) {
            return BAD;
        }
        return what == 0 ? SORTS.indexOf(told.sorts.get(p)) : now.house.get(p);
    }

    int slot(int k, int what) {
        if (!isSlot(k) || what < 0 || what > 2) {
            return BAD;
        }
        if (what == 0) {
            return now.house.contains(k) ? now.house.indexOf(k) : NONE;
        }
        return (what == 1 ? told.rain : told.sun).contains(k) ? 1 : 0;
    }

    int told(int what) {
        return switch (what) {
            case 0 -> told.view;
            case 1 -> told.noise;
            case 2 -> told.down;
            case 3 -> told.hands;
            default -> BAD;
        };
    }

    int beam(int k) {
        if (k < 0 || k >= told.beams.size()) {
            return BAD;
        }
        return isBorne(now.house, told.beams.get(k)) ? 1 : 0;
    }

    private boolean isBorne(List<Integer> house, Set<Integer> beam) {
        for (int k : beam) {
            if (sortAt(house, k).equals("wall")) {
                return true;
            }
        }
        return false;
    }

    private String sortAt(List<Integer> house, int k) {
        return house.contains(k) ? told.sorts.get(house.indexOf(k)) : "";
    }

    private static int lying(List<Integer> house) {
        int lying = 0;
        for (int place : house) {
            lying += place == 8 ? 1 : 0;
        }
        return lying;
    }

    private boolean lawful(List<Integer> house) {
        List<Integer> standing = new ArrayList<>(house);
        standing.removeIf(place -> place == 8);
        boolean lawful = new HashSet<>(standing).size() == standing.size() && lying(house) <= told.down;
        for (Set<Integer> beam : told.beams) {
            lawful &= isBorne(house, beam);
        }
        return lawful;
    }

    // ---- acts and nights.

    private static List<Integer> with(List<Integer> house, int p, int place) {
        List<Integer> other = new ArrayList<>(house);
        other.set(p, place);
        return other;
    }

    int down(int p) {
        return isPanel(p) ? act(p, 8, now.house.get(p) != 8) : BAD;
    }

    int up(int p, int k) {
        return isPanel(p) && isSlot(k) ? act(p, k, now.house.get(p) == 8 && !now.house.contains(k)) : BAD;
    }

    private int act(int p, int place, boolean can) {
        if (!can || !lawful(with(now.house, p, place)) || now.acts >= told.hands) {
            return STATE;
        }
        now.house = with(now.house, p, place);
        now.acts++;
        return lying(now.house);
    }

    private int leaks(List<Integer> house) {
        int leaks = 0;
        for (int k : told.rain) {
            leaks += List.of("wall", "glass").contains(sortAt(house, k)) ? 0 : 1;
        }
        return leaks;
    }

    private boolean isLit(List<Integer> house, int hour) {
        return told.sun.contains(hour) && List.of("", "glass").contains(sortAt(house, hour));
    }

    private int worth(List<Integer> house) {
        int worth = -2 * leaks(house);
        for (int hour = 0; hour < 8; hour++) {
            worth += isLit(house, hour) ? 3 : 0;
        }
        if (told.view != NONE && List.of("", "glass").contains(sortAt(house, told.view))) {
            worth += 5;
        }
        if (told.noise != NONE && house.contains(told.noise)) {
            worth += sortAt(house, told.noise).equals("wall") ? 4 : 2;
        }
        return worth;
    }

    int night() {
        if (now.day == 999) {
            return STATE;
        }
        int leaks = leaks(now.house);
        now.leaks += leaks;
        now.day++;
        now.acts = 0;
        return leaks;
    }

    int now(int what) {
        return switch (what) {
            case 0 -> now.day;
            case 1 -> now.acts;
            case 2 -> now.leaks;
            case 3 -> worth(now.house);
            case 4 -> lawful(now.house) ? 1 : 0;
            case 5 -> leaks(now.house);
            default -> NO;
        };
    }

    int lit(int hour) {
        return isSlot(hour) ? isLit(now.house, hour) ? 1 : 0 : BAD;
    }

    // ---- from this house to that.

    private List<List<Integer>> nextHouses(List<Integer> house) {
        List<List<Integer>> next = new ArrayList<>();
        for (int p = 0; p < house.size(); p++) {
            for (int place = 0; place <= 8; place++) {
                boolean moves = house.get(p) == 8 ? place < 8 && !house.contains(place) : place == 8;
                if (moves && lawful(with(house, p, place))) {
                    next.add(with(house, p, place));
                }
            }
        }
        return next;
    }

    /** All houses to which at most so many acts lead from some, by rounds of one act each. */
    private List<Set<List<Integer>>> rounds(Set<List<Integer>> from, int acts) {
        List<Set<List<Integer>>> rounds = new ArrayList<>();
        Set<List<Integer>> seen = new HashSet<>(from);
        Set<List<Integer>> round = new HashSet<>(from);
        for (int act = 0; act <= acts && !round.isEmpty(); act++) {
            rounds.add(round);
            Set<List<Integer>> next = new HashSet<>();
            for (List<Integer> house : round) {
                for (List<Integer> other : nextHouses(house)) {
                    if (seen.add(other)) {
                        next.add(other);
                    }
                }
            }
            round = next;
        }
        return rounds;
    }

    private int fewest(List<Integer> from, List<Integer> to) {
        List<Set<List<Integer>>> rounds = rounds(Set.of(from), 10000);
        for (int acts = 0; acts < rounds.size(); acts++) {
            if (rounds.get(acts).contains(to)) {
                return acts;
            }
        }
        return NONE;
    }

    private int refusal(int image) {
        return image < 0 || image > 1 ? BAD : images[image] == null ? STATE : 0;
    }

    int fewest(int image) {
        return refusal(image) < 0 ? refusal(image) : fewest(now.house, images[image].house);
    }

    int first(int image) {
        if (refusal(image) < 0) {
            return refusal(image);
        }
        int all = fewest(now.house, images[image].house);
        if (all <= 0) {
            return NONE;
        }
        int best = Integer.MAX_VALUE;
        for (List<Integer> next : nextHouses(now.house)) {
            if (fewest(next, images[image].house) == all - 1) {
                for (int p = 0; p < next.size(); p++) {
                    if (!next.get(p).equals(now.house.get(p))) {
                        best = Math.min(best, 10 * p + next.get(p));
                    }
                }
            }
        }
        return best;
    }

    int nights(int image) {
        if (refusal(image) < 0) {
            return refusal(image);
        }
        Set<List<Integer>> mornings = Set.of(now.house);
        int acts = told.hands - now.acts;
        for (int night = 0; night <= 20 && now.day + night <= 999; night++) {
            Set<List<Integer>> evenings = new HashSet<>();
            for (Set<List<Integer>> round : rounds(mornings, acts)) {
                evenings.addAll(round);
            }
            if (evenings.contains(images[image].house)) {
                return night;
            }
            evenings.removeIf(house -> leaks(house) > 0);
            mornings = evenings;
            acts = told.hands;
        }
        return NONE;
    }

    int piano(int k) {
        if (!isSlot(k)) {
            return BAD;
        }
        List<Set<List<Integer>>> rounds = rounds(Set.of(now.house), 10000);
        for (int acts = 0; acts < rounds.size(); acts++) {
            for (List<Integer> house : rounds.get(acts)) {
                if (!house.contains(k) && !house.contains((k + 1) % 8)) {
                    return acts;
                }
            }
        }
        return NONE;
    }

    private List<List<Integer>> lawfulHouses() {
        List<List<Integer>> houses = new ArrayList<>();
        houses.add(new ArrayList<>());
        for (int p = 0; p < told.sorts.size(); p++) {
            List<List<Integer>> longer = new ArrayList<>();
            for (List<Integer> house : houses) {
                for (int place = 0; place <= 8; place++) {
                    List<Integer> other = new ArrayList<>(house);
                    other.add(place);
                    longer.add(other);
                }
            }
            houses = longer;
        }
        houses.removeIf(house -> !lawful(house));
        return houses;
    }

    int best(int p) {
        if (p != -1 && !isPanel(p)) {
            return NO;
        }
        List<Integer> best = null;
        for (List<Integer> house : lawfulHouses()) {
            if (best == null || worth(house) > worth(best)) {
                best = house;
            }
        }
        return best == null ? NO : p == -1 ? worth(best) : best.get(p);
    }

    // ---- a letter.

    int clue(int hour, int lit) {
        if (!isSlot(hour) || lit < 0 || lit > 1) {
            return BAD;
        }
        if (now.clues.size() == 8) {
            return FULL;
        }
        now.clues.add(new int[] {hour, lit});
        return now.clues.size();
    }

    private List<List<Integer>> fitting() {
        List<List<Integer>> houses = lawfulHouses();
        for (int[] clue : now.clues) {
            houses.removeIf(house -> (isLit(house, clue[0]) ? 1 : 0) != clue[1]);
        }
        return houses;
    }

    int fit() {
        return fitting().size();
    }

    int sure(int p) {
        if (!isPanel(p)) {
            return BAD;
        }
        Set<Integer> places = new HashSet<>();
        for (List<Integer> house : fitting()) {
            places.add(house.get(p));
        }
        return places.size() == 1 ? places.iterator().next() : NONE;
    }

    int forget() {
        int had = now.clues.size();
        now.clues.clear();
        return had;
    }

    // ---- kinds, images.

    int mark(int kind, int p) {
        if (kind < 0 || kind > 5 || !isPanel(p)) {
            return NO;
        }
        int[] above = {-1, 0, 0, 1, 2, 0};
        int[] weights = {1, 10, 100, 1000, 10000, 100000};
        trace += weights[kind];
        int up = kind == 0 ? 0 : mark(above[kind], p);
        return switch (kind) {
            case 0 -> now.house.get(p);
            case 1 -> up * 2;
            case 2 -> up + SORTS.indexOf(told.sorts.get(p));
            case 3 -> up + now.day;
            case 4 -> up + lying(now.house);
            default -> up - p;
        };
    }

    int keep(int image) {
        if (image < 0 || image > 1) {
            return BAD;
        }
        images[image] = now.copy();
        return now.day;
    }

    int back(int image) {
        if (refusal(image) < 0) {
            return refusal(image);
        }
        now = images[image].copy();
        return now.day;
    }

    int count(int what) {
        int[] counts = {told.sorts.size(), told.beams.size(), lying(now.house), now.clues.size(), text.length()};
        return what < 0 || what > 4 ? BAD : counts[what];
    }

    long trace() {
        return trace;
    }

    @Override
    public String toString() {
        return told.sorts + " " + now.house + " told " + Arrays.asList(told.beams, told.rain, told.sun);
    }
}
