import java.util.LinkedHashMap;
import java.util.List;
import java.util.Map;
import java.util.function.Supplier;
import java.util.function.ToLongFunction;

/** All promises: what only asks changes nothing, and what does something changes that alone. */
public final class AskedTest {
    private static final Due DUE = new Due("AskedTest");

    public static void main(String[] args) {
        asking("a new object", BedHouse::new);
        asking("a house", Houses::house);
        asking("a house where nothing may be done", Houses::spent);
        asking("a house with fewer panels", Houses::twoPanels);
        asking("a house that is not lawful", AskedTest::notLawful);
        doing();
        doingWhereLessIsLeft();
        twoObjectsShareNothing();
        DUE.close();
    }

    private static BedHouse notLawful() {
        BedHouse x = Due.told("wall 8;glass 8;wall 4;beam 3 1;rain 4 2;sun 2 4;view 3;noise 4;down 1;hands 9;");
        x.clue(4, 0);
        x.keep(0);
        x.up(0, 3);
        x.keep(1);
        x.back(0);
        Due.write(x, "sun 1 1;");
        return x;
    }

    // ---- what only asks.

    private static void asked(String where, Supplier<BedHouse> maker, String call, ToLongFunction<BedHouse> asked) {
        BedHouse x = maker.get();
        long answer = asked.applyAsLong(x);
        DUE.is(call + " asked again in " + where, answer, asked.applyAsLong(x));
        DUE.holds(call + " changes nothing in " + where, Look.all(maker.get()).equals(Look.all(x)));
    }

    private static void asking(String where, Supplier<BedHouse> maker) {
        for (int i = -1; i <= 8; i++) {
            int a = i;
            for (int j = 0; j <= 2; j++) {
                int b = j;
                asked(where, maker, "panel(" + a + ", " + b + ")", x -> x.panel(a, b));
                asked(where, maker, "slot(" + a + ", " + b + ")", x -> x.slot(a, b));
            }
            asked(where, maker, "told(" + a + ")", x -> x.told(a));
            asked(where, maker, "beam(" + a + ")", x -> x.beam(a));
            asked(where, maker, "now(" + a + ")", x -> x.now(a));
            asked(where, maker, "lit(" + a + ")", x -> x.lit(a));
            asked(where, maker, "fewest(" + a + ")", x -> x.fewest(a));
            asked(where, maker, "first(" + a + ")", x -> x.first(a));
            asked(where, maker, "nights(" + a + ")", x -> x.nights(a));
            asked(where, maker, "piano(" + a + ")", x -> x.piano(a));
            asked(where, maker, "best(" + a + ")", x -> x.best(a));
            asked(where, maker, "sure(" + a + ")", x -> x.sure(a));
            asked(where, maker, "count(" + a + ")", x -> x.count(a));
        }
        asked(where, maker, "fit()", BedHouse::fit);
        asked(where, maker, "trace()", BedHouse::trace);
    }

    // ---- what does something.

    private static String houseOf(BedHouse x) {
        StringBuilder places = new StringBuilder();
        for (int p = 0; p < 4; p++) {
            places.append(x.panel(p, 1)).append(' ');
        }
        return places.toString();
    }

    /** How many CLUES there are, and what they say: at the HOURS at which the SUN shines. */
    private static String cluesOf(BedHouse x) {
        return x.count(3) + " " + x.fit() + " " + x.sure(0) + " " + x.sure(1) + " " + x.sure(2) + " " + x.sure(3);
    }

    private static String toldOf(BedHouse x) {
        StringBuilder told = new StringBuilder();
        for (int i = 0; i < 8; i++) {
            told.append(x.panel(i, 0)).append(x.slot(i, 1)).append(x.slot(i, 2)).append(x.told(i)).append(' ');
        }
        return told.append(x.count(0)).append(x.count(1)).toString();
    }

    private static String nowOf(BedHouse x) {
        return houseOf(x) + x.now(0) + " " + x.now(1) + " " + x.now(2) + " " + cluesOf(x);
    }

    /** The parts of an object by their names; the object is used up then. */
    private static Map<String, String> parts(BedHouse x) {
        Map<String, String> parts = new LinkedHashMap<>();
        parts.put("told", toldOf(x));
        parts.put("house", houseOf(x));
        parts.put("day", "" + x.now(0));
        parts.put("acts", "" + x.now(1));
        parts.put("leaks", "" + x.now(2));
        parts.put("clues", cluesOf(x));
        parts.put("trace", "" + x.trace());
        for (int image = 0; image < 2; image++) {
            parts.put("image " + image, x.back(image) == -2 ? "none" : nowOf(x));
        }
        parts.put("text", x.count(4) + " " + x.house() + " " + toldOf(x) + " " + houseOf(x));
        return parts;
    }

    private static void changes(Supplier<BedHouse> maker, String call, long due, ToLongFunction<BedHouse> asked,
            String... changed) {
        BedHouse x = maker.get();
        DUE.is(call, due, asked.applyAsLong(x));
        Map<String, String> before = parts(maker.get());
        Map<String, String> behind = parts(x);
        for (String part : before.keySet()) {
            boolean same = before.get(part).equals(behind.get(part));
            boolean shouldBe = !List.of(changed).contains(part);
            DUE.holds(call + (shouldBe ? " leaves " : " changes ") + part, same == shouldBe);
        }
    }

    private static void doing() {
        Supplier<BedHouse> house = Houses::house;
        changes(house, "type(9, 1)", 8, x -> x.type('9', 1), "text");
        changes(house, "clear()", 7, BedHouse::clear, "text");
        changes(house, "house()", 1, BedHouse::house,
            "told", "house", "day", "acts", "leaks", "clues", "image 0", "image 1", "text");
        changes(house, "up(2, 6)", 1, x -> x.up(2, 6), "house", "acts");
        changes(house, "night()", 2, BedHouse::night, "day", "acts", "leaks");
        changes(house, "clue(4, 0)", 3, x -> x.clue(4, 0), "clues");
        changes(house, "forget()", 2, BedHouse::forget, "clues");
        changes(house, "mark(3, 1)", 5, x -> x.mark(3, 1), "trace");
        changes(house, "keep(0)", 1, x -> x.keep(0), "image 0");
        changes(house, "keep(1)", 1, x -> x.keep(1), "image 1");
        changes(house, "back(0)", 1, x -> x.back(0), "house", "acts");
        changes(house, "back(1)", 0, x -> x.back(1), "house", "day", "acts", "leaks", "clues");
        // An act done and undone: the HOUSE is as it was, the acts are not.
        changes(house, "up(2, 5) behind a night, and down(2)", 2, x -> {
            x.night();
            x.up(2, 5);
            return x.down(2);
        }, "day", "acts", "leaks");
    }

    private static void doingWhereLessIsLeft() {
        changes(Houses::spent, "clear()", 200, BedHouse::clear, "text");
        changes(Houses::spent, "forget()", 8, BedHouse::forget, "clues");
        changes(Houses::spent, "night()", 0, BedHouse::night, "day", "acts");
        changes(Houses::spent, "keep(1)", 0, x -> x.keep(1), "image 1");
        changes(Houses::twoPanels, "down(0) of the next day", 1, x -> {
            x.night();
            return x.down(0);
        }, "house", "day");
        changes(Houses::twoPanels, "keep(0)", 0, x -> x.keep(0), "image 0");
        changes(AskedTest::notLawful, "night()", 1, BedHouse::night, "day", "leaks");
        changes(AskedTest::notLawful, "up(0, 3)", 1, x -> x.up(0, 3), "house", "acts");
        changes(AskedTest::notLawful, "back(1)", 0, x -> x.back(1), "house", "acts");
        changes(AskedTest::notLawful, "back(0)", 0, x -> x.back(0));
        changes(BedHouse::new, "clear()", 0, BedHouse::clear);
        changes(BedHouse::new, "forget()", 0, BedHouse::forget);
        changes(BedHouse::new, "house()", 0, BedHouse::house);
        changes(BedHouse::new, "night()", 0, BedHouse::night, "day");
    }

    // ---- two objects.

    private static void twoObjectsShareNothing() {
        String due = Look.all(Houses.house());
        BedHouse x = Houses.house();
        BedHouse y = Houses.spent();
        BedHouse z = new BedHouse();
        y.night();
        y.down(0);
        y.forget();
        y.keep(0);
        y.mark(3, 2);
        Look.all(y);
        Due.tell(z, "rotten 3;sun 0 8;view 3;");
        z.best(-1);
        z.mark(1, 0);
        Look.all(z);
        DUE.holds("what is done to others is not done to this one", due.equals(Look.all(x)));
    }
}
