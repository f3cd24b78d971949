import java.util.ArrayList;
import java.util.List;
import java.util.function.ToIntFunction;

/** All promises: each refused call by its word, of two reasons the first, and that it changes nothing. */
public final class RefusedTest {
    private static final Due DUE = new Due("RefusedTest");
    private static final int BAD = -1, STATE = -2, FULL = -3, NO = -1000000;
    private static final int[] NO_SLOTS = {-1, 8, 9, -9, Integer.MIN_VALUE, Integer.MAX_VALUE};
    private static final int[] NO_IMAGES = {-1, 2, 3, Integer.MIN_VALUE, Integer.MAX_VALUE};

    /** How an object is brought to where a call is refused. */
    private interface Maker {
        BedHouse make();
    }

    public static void main(String[] args) {
        badIn("a new object", BedHouse::new, 0);
        badIn("a house", RefusedTest::house, 4);
        badIn("a house where nothing may be done", RefusedTest::spent, 4);
        badIn("a house with fewer panels", RefusedTest::twoPanels, 2);
        stateOfActs();
        stateOfBeams();
        stateOfHands();
        stateOfImages();
        imagesGone();
        full();
        faultyTexts();
        DUE.close();
    }

    // ---- what can be seen of an object.

    private static String look(BedHouse x) {
        List<Long> seen = new ArrayList<>();
        for (int k = 0; k < 8; k++) {
            for (int what = 0; what < 3; what++) {
                seen.add((long) x.slot(k, what));
            }
            seen.add((long) x.lit(k));
        }
        for (int what = 0; what < 6; what++) {
            seen.add((long) x.now(what));
            seen.add((long) x.told(what));
            seen.add((long) x.count(what));
        }
        for (int p = 0; p < 4; p++) {
            seen.add((long) x.panel(p, 0));
            seen.add((long) x.panel(p, 1));
            seen.add((long) x.sure(p));
            seen.add((long) x.best(p));
        }
        seen.add((long) x.beam(0));
        seen.add((long) x.beam(1));
        seen.add((long) x.best(-1));
        seen.add((long) x.piano(3));
        seen.add((long) x.fit());
        seen.add(x.trace());
        for (int image = 0; image < 2; image++) {
            seen.add((long) x.fewest(image));
            seen.add((long) x.first(image));
            seen.add((long) x.nights(image));
        }
        return seen.toString();
    }

    /** What is seen now, in the images, and of THE TEXT once it is told; the object is used up then. */
    private static String lookAtAll(BedHouse x) {
        StringBuilder seen = new StringBuilder(look(x));
        for (int image = 0; image < 2; image++) {
            seen.append(x.back(image)).append(look(x));
        }
        seen.append(x.house()).append(look(x)).append(x.forget()).append(x.clear());
        return seen.toString();
    }

    private static void refused(String where, Maker maker, String call, int word, ToIntFunction<BedHouse> asked) {
        BedHouse x = maker.make();
        DUE.is(call + " in " + where, word, asked.applyAsInt(x));
        String seen = lookAtAll(x);
        String due = lookAtAll(maker.make());
        DUE.holds(call + " changes nothing in " + where + ":\n" + due + "\n" + seen, due.equals(seen));
    }

    // ---- the houses.

    /** Four panels, one lies, one act is left, clues, both images, a text that could be told. */
    private static BedHouse house() {
        BedHouse x = Due.told("wall 0;glass 2;curtain 5;rotten 7;"
            + "beam 7 2;beam 0 3;rain 2 3;sun 1 7;view 2;noise 0;down 2;hands 2;");
        x.keep(1);
        x.clue(3, 1);
        x.clue(5, 0);
        x.mark(4, 1);
        x.down(3);
        x.night();
        x.keep(0);
        x.down(2);
        Due.write(x, "wall 4;");
        return x;
    }

    /** No act is left, as many lie as may, THE TEXT and the clues are full, no image is kept, no beam may go. */
    private static BedHouse spent() {
        BedHouse x = Due.told("wall 0;glass 2;curtain 5;rotten 7;beam 7 2;sun 0 8;rain 0 1;down 1;hands 1;");
        x.down(3);
        for (int i = 0; i < 8; i++) {
            x.clue(i, i == 0 || i == 5 ? 0 : 1);
        }
        Due.write(x, "sun 1 1;".repeat(25));
        return x;
    }

    private static BedHouse twoPanels() {
        BedHouse x = Due.told("rotten 3;wall 8;hands 1;beam 0 8;");
        x.keep(1);
        x.up(1, 6);
        x.clue(3, 1);
        Due.write(x, "glass 2;");
        return x;
    }

    // ---- BAD, which comes ahead of all else.

    private static void badIn(String where, Maker maker, int panels) {
        int[] noPanels = {-1, panels, panels + 1, -9, Integer.MIN_VALUE, Integer.MAX_VALUE};
        badBytes(where, maker);
        badPanels(where, maker, noPanels);
        badWhats(where, maker, panels);
        badSlots(where, maker, panels);
        badImages(where, maker);
    }

    private static void badBytes(String where, Maker maker) {
        for (int n : new int[] {0, 9, 10, -1, -8, Integer.MIN_VALUE, Integer.MAX_VALUE}) {
            refused(where, maker, "type(x, " + n + ")", BAD, x -> x.type(0x3b3b3b3b3b3b3b3bL, n));
        }
    }

    private static void badPanels(String where, Maker maker, int[] noPanels) {
        for (int p : noPanels) {
            refused(where, maker, "panel(" + p + ", 0)", BAD, x -> x.panel(p, 0));
            refused(where, maker, "panel(" + p + ", 1)", BAD, x -> x.panel(p, 1));
            refused(where, maker, "panel(" + p + ", 2)", BAD, x -> x.panel(p, 2));
            refused(where, maker, "down(" + p + ")", BAD, x -> x.down(p));
            refused(where, maker, "up(" + p + ", 0)", BAD, x -> x.up(p, 0));
            refused(where, maker, "up(" + p + ", 6)", BAD, x -> x.up(p, 6));
            refused(where, maker, "up(" + p + ", 8)", BAD, x -> x.up(p, 8));
            refused(where, maker, "sure(" + p + ")", BAD, x -> x.sure(p));
            if (p != -1) {
                refused(where, maker, "best(" + p + ")", NO, x -> x.best(p));
            }
            for (int kind = -1; kind <= 6; kind++) {
                int k = kind;
                refused(where, maker, "mark(" + k + ", " + p + ")", NO, x -> x.mark(k, p));
            }
        }
        refused(where, maker, "best(-2)", NO, x -> x.best(-2));
    }

    private static void badWhats(String where, Maker maker, int panels) {
        for (int none : new int[] {-1, Integer.MIN_VALUE, Integer.MAX_VALUE}) {
            refused(where, maker, "slot(0, " + none + ")", BAD, x -> x.slot(0, none));
            refused(where, maker, "told(" + none + ")", BAD, x -> x.told(none));
            refused(where, maker, "beam(" + none + ")", BAD, x -> x.beam(none));
            refused(where, maker, "now(" + none + ")", NO, x -> x.now(none));
            refused(where, maker, "count(" + none + ")", BAD, x -> x.count(none));
            refused(where, maker, "clue(0, " + none + ")", BAD, x -> x.clue(0, none));
            for (int p = 0; p < panels; p++) {
                int panel = p;
                refused(where, maker, "panel(" + p + ", " + none + ")", BAD, x -> x.panel(panel, none));
                refused(where, maker, "mark(" + none + ", " + p + ")", NO, x -> x.mark(none, panel));
            }
        }
        refused(where, maker, "slot(0, 3)", BAD, x -> x.slot(0, 3));
        refused(where, maker, "told(4)", BAD, x -> x.told(4));
        refused(where, maker, "beam(2)", BAD, x -> x.beam(2));
        refused(where, maker, "now(6)", NO, x -> x.now(6));
        refused(where, maker, "count(5)", BAD, x -> x.count(5));
        refused(where, maker, "clue(7, 2)", BAD, x -> x.clue(7, 2));
        for (int p = 0; p < panels; p++) {
            int panel = p;
            refused(where, maker, "panel(" + p + ", 2)", BAD, x -> x.panel(panel, 2));
            refused(where, maker, "mark(6, " + p + ")", NO, x -> x.mark(6, panel));
        }
    }

    private static void badSlots(String where, Maker maker, int panels) {
        for (int k : NO_SLOTS) {
            for (int what = -1; what <= 3; what++) {
                int w = what;
                refused(where, maker, "slot(" + k + ", " + w + ")", BAD, x -> x.slot(k, w));
            }
            refused(where, maker, "lit(" + k + ")", BAD, x -> x.lit(k));
            refused(where, maker, "piano(" + k + ")", BAD, x -> x.piano(k));
            refused(where, maker, "clue(" + k + ", 0)", BAD, x -> x.clue(k, 0));
            refused(where, maker, "clue(" + k + ", 1)", BAD, x -> x.clue(k, 1));
            refused(where, maker, "clue(" + k + ", 2)", BAD, x -> x.clue(k, 2));
            for (int p = 0; p < panels; p++) {
                int panel = p;
                refused(where, maker, "up(" + p + ", " + k + ")", BAD, x -> x.up(panel, k));
            }
        }
    }

    private static void badImages(String where, Maker maker) {
        for (int image : NO_IMAGES) {
            refused(where, maker, "fewest(" + image + ")", BAD, x -> x.fewest(image));
            refused(where, maker, "first(" + image + ")", BAD, x -> x.first(image));
            refused(where, maker, "nights(" + image + ")", BAD, x -> x.nights(image));
            refused(where, maker, "keep(" + image + ")", BAD, x -> x.keep(image));
            refused(where, maker, "back(" + image + ")", BAD, x -> x.back(image));
        }
    }

    // ---- STATE.

    private static void stateOfActs() {
        // Panels 2 and 3 lie, 0 bears the beams, 1 stands in slot 2; one act is left.
        String where = "a house with one act left";
        refused(where, RefusedTest::house, "down(2)", STATE, x -> x.down(2));
        refused(where, RefusedTest::house, "down(3)", STATE, x -> x.down(3));
        refused(where, RefusedTest::house, "down(0)", STATE, x -> x.down(0));
        refused(where, RefusedTest::house, "down(1)", STATE, x -> x.down(1));
        refused(where, RefusedTest::house, "up(2, 0)", STATE, x -> x.up(2, 0));
        refused(where, RefusedTest::house, "up(3, 2)", STATE, x -> x.up(3, 2));
        for (int k = 0; k < 8; k++) {
            int slot = k;
            refused(where, RefusedTest::house, "up(0, " + k + ")", STATE, x -> x.up(0, slot));
            refused(where, RefusedTest::house, "up(1, " + k + ")", STATE, x -> x.up(1, slot));
        }
        BedHouse x = house();
        DUE.is("but this act may be", 1, x.up(2, 2 + 4));
    }

    private static void stateOfBeams() {
        Maker maker = () -> {
            BedHouse x = Due.told("wall 8;glass 8;wall 4;beam 3 1;down 1;hands 9;");
            Due.write(x, "view 3;");
            x.clue(0, 0);
            x.keep(0);
            return x;
        };
        String where = "a house that is not lawful";
        for (int k = 0; k < 8; k++) {
            int slot = k;
            // Slot 4 has one; in 3 alone a wall would bear, but not glass.
            if (k != 3) {
                refused(where, maker, "up(0, " + k + ")", STATE, x -> x.up(0, slot));
            }
            refused(where, maker, "up(1, " + k + ")", STATE, x -> x.up(1, slot));
            refused(where, maker, "up(2, " + k + ")", STATE, x -> x.up(2, slot));
        }
        for (int p = 0; p < 3; p++) {
            int panel = p;
            refused(where, maker, "down(" + p + ")", STATE, x -> x.down(panel));
        }
        DUE.is("but this act may be", 1, maker.make().up(0, 3));
    }

    private static void stateOfHands() {
        for (int hands = 1; hands <= 9; hands++) {
            int all = hands;
            Maker maker = () -> {
                BedHouse x = Due.told("wall 0;glass 1;hands " + all + ";");
                for (int act = 0; act < all; act++) {
                    DUE.holds("act " + act + " of " + all, (act % 2 == 0 ? x.down(0) : x.up(0, 2 + act / 2)) >= 0);
                }
                x.keep(0);
                return x;
            };
            String where = "a day of " + hands + " acts that are done";
            refused(where, maker, "down(0)", STATE, x -> x.down(0));
            refused(where, maker, "down(1)", STATE, x -> x.down(1));
            refused(where, maker, "up(0, 0)", STATE, x -> x.up(0, 0));
            refused(where, maker, "up(1, 0)", STATE, x -> x.up(1, 0));
            refused(where, maker, "up(0, 8)", BAD, x -> x.up(0, 8));
            refused(where, maker, "down(2)", BAD, x -> x.down(2));
            BedHouse x = maker.make();
            DUE.is("acts", hands, x.now(1));
            x.night();
            DUE.is("acts of the next day", 0, x.now(1));
            DUE.is("the next day's first act", hands % 2 == 1 ? 2 : 1, x.down(1));
        }
    }

    private static void stateOfImages() {
        for (int kept = -1; kept < 2; kept++) {
            int image = kept;
            Maker maker = () -> {
                BedHouse x = Due.told("wall 0;glass 1;");
                x.keep(image);
                x.down(0);
                return x;
            };
            String where = "a house with image " + kept + " kept";
            for (int i = 0; i < 2; i++) {
                int other = i;
                if (i != kept) {
                    refused(where, maker, "fewest(" + i + ")", STATE, x -> x.fewest(other));
                    refused(where, maker, "first(" + i + ")", STATE, x -> x.first(other));
                    refused(where, maker, "nights(" + i + ")", STATE, x -> x.nights(other));
                    refused(where, maker, "back(" + i + ")", STATE, x -> x.back(other));
                }
            }
        }
    }

    private static void imagesGone() {
        Maker maker = () -> {
            BedHouse x = house();
            x.house();
            return x;
        };
        for (int i = 0; i < 2; i++) {
            int image = i;
            refused("a house read anew", maker, "back(" + i + ")", STATE, x -> x.back(image));
            refused("a house read anew", maker, "fewest(" + i + ")", STATE, x -> x.fewest(image));
            refused("a house read anew", maker, "first(" + i + ")", STATE, x -> x.first(image));
            refused("a house read anew", maker, "nights(" + i + ")", STATE, x -> x.nights(image));
        }
    }

    // ---- FULL, and faulty texts.

    private static void full() {
        for (int n = 1; n <= 8; n++) {
            int bytes = n;
            refused("a full text", RefusedTest::spent, "type(x, " + n + ")", FULL,
                x -> x.type(0x3b3b3b3b3b3b3b3bL, bytes));
            Maker nearlyFull = () -> {
                BedHouse x = house();
                Due.write(x, " ".repeat(201 - 7 - bytes));
                return x;
            };
            refused("a text with room for " + (n - 1), nearlyFull, "type(x, " + n + ")", FULL,
                x -> x.type(0x3b3b3b3b3b3b3b3bL, bytes));
        }
        for (int hour = 0; hour < 8; hour++) {
            int h = hour;
            refused("eight clues", RefusedTest::spent, "clue(" + h + ", 0)", FULL, x -> x.clue(h, 0));
            refused("eight clues", RefusedTest::spent, "clue(" + h + ", 1)", FULL, x -> x.clue(h, 1));
        }
    }

    private static void faultyTexts() {
        // They stand behind the "wall 4;" that house() has typed.
        String[] texts = {"wall 5", "wall 4;", ";", "view 1;view 1", "#",
            "glass 3;sun 0 8;rain 0 8;down 4;hands 9;wall 3;"};
        int[] faults = {7 + 6, 7 + 5, 7, 7 + 7, 7, 7 + 45};
        for (int i = 0; i < texts.length; i++) {
            String text = texts[i];
            Maker maker = () -> {
                BedHouse x = house();
                Due.write(x, text);
                return x;
            };
            refused("a house with a faulty text", maker, "house of " + text, -10 - faults[i], BedHouse::house);
        }
    }
}
