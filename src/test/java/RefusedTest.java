import java.util.function.ToIntFunction;

/** All promises: each refused call by its word, of two reasons the first, and that it changes nothing. */
public final class RefusedTest {
    private static final Due DUE = new Due("RefusedTest");
    private static final int BAD = -1, STATE = -2, FULL = -3, NO = -1000000;
    private static final int[] NO_SLOTS = {-1, 8, 9, -9, Integer.MIN_VALUE, Integer.MAX_VALUE};
    private static final int[] NO_IMAGES = {-1, 2, 3, Integer.MIN_VALUE, Integer.MAX_VALUE};

    /** How an object is brought to where a call is refused. */
    private interface Maker {
        BedHouse make();
    }

    public static void main(String[] args) {
        badIn("a new object", BedHouse::new, 0);
        badIn("a house", Houses::house, 4);
        badIn("a house where nothing may be done", Houses::spent, 4);
        badIn("a house with fewer panels", Houses::twoPanels, 2);
        stateOfActs();
        stateOfBeams();
        stateOfHands();
        stateOfImages();
        imagesGone();
        full();
        faultyTexts();
        DUE.close();
    }

    private static void refused(String where, Maker maker, String call, int word, ToIntFunction<BedHouse> asked) {
        BedHouse x = maker.make();
        DUE.is(call + " in " + where, word, asked.applyAsInt(x));
        String seen = Look.all(x);
        String due = Look.all(maker.make());
        DUE.holds(call + " changes nothing in " + where + ":\n" + due + "\n" + seen, due.equals(seen));
    }

    // ---- BAD, which comes ahead of all else.

    private static void badIn(String where, Maker maker, int panels) {
        int[] noPanels = {-1, panels, panels + 1, -9, Integer.MIN_VALUE, Integer.MAX_VALUE};
        badBytes(where, maker);
        badPanels(where, maker, noPanels);
        badWhats(where, maker, panels);
        badSlots(where, maker, panels);
        badImages(where, maker);
    }

    private static void badBytes(String where, Maker maker) {
        for (int n : new int[] {0, 9, 10, -1, -8, Integer.MIN_VALUE, Integer.MAX_VALUE}) {
            refused(where, maker, "type(x, " + n + ")", BAD, x -> x.type(0x3b3b3b3b3b3b3b3bL, n));
        }
    }

    private static void badPanels(String where, Maker maker, int[] noPanels) {
        for (int p : noPanels) {
            refused(where, maker, "panel(" + p + ", 0)", BAD, x -> x.panel(p, 0));
            refused(where, maker, "panel(" + p + ", 1)", BAD, x -> x.panel(p, 1));
            refused(where, maker, "panel(" + p + ", 2)", BAD, x -> x.panel(p, 2));
            refused(where, maker, "down(" + p + ")", BAD, x -> x.down(p));
            refused(where, maker, "up(" + p + ", 0)", BAD, x -> x.up(p, 0));
            refused(where, maker, "up(" + p + ", 6)", BAD, x -> x.up(p, 6));
            refused(where, maker, "up(" + p + ", 8)", BAD, x -> x.up(p, 8));
            refused(where, maker, "sure(" + p + ")", BAD, x -> x.sure(p));
            if (p != -1) {
                refused(where, maker, "best(" + p + ")", NO, x -> x.best(p));
            }
            for (int kind = -1; kind <= 6; kind++) {
                int k = kind;
                refused(where, maker, "mark(" + k + ", " + p + ")", NO, x -> x.mark(k, p));
            }
        }
        refused(where, maker, "best(-2)", NO, x -> x.best(-2));
    }

    private static void badWhats(String where, Maker maker, int panels) {
        for (int none : new int[] {-1, Integer.MIN_VALUE, Integer.MAX_VALUE}) {
            refused(where, maker, "slot(0, " + none + ")", BAD, x -> x.slot(0, none));
            refused(where, maker, "told(" + none + ")", BAD, x -> x.told(none));
            refused(where, maker, "beam(" + none + ")", BAD, x -> x.beam(none));
            refused(where, maker, "now(" + none + ")", NO, x -> x.now(none));
            refused(where, maker, "count(" + none + ")", BAD, x -> x.count(none));
            refused(where, maker, "clue(0, " + none + ")", BAD, x -> x.clue(0, none));
            for (int p = 0; p < panels; p++) {
                int panel = p;
                refused(where, maker, "panel(" + p + ", " + none + ")", BAD, x -> x.panel(panel, none));
                refused(where, maker, "mark(" + none + ", " + p + ")", NO, x -> x.mark(none, panel));
            }
        }
        refused(where, maker, "slot(0, 3)", BAD, x -> x.slot(0, 3));
        refused(where, maker, "told(4)", BAD, x -> x.told(4));
        refused(where, maker, "beam(2)", BAD, x -> x.beam(2));
        refused(where, maker, "now(6)", NO, x -> x.now(6));
        refused(where, maker, "count(5)", BAD, x -> x.count(5));
        refused(where, maker, "clue(7, 2)", BAD, x -> x.clue(7, 2));
        for (int p = 0; p < panels; p++) {
            int panel = p;
            refused(where, maker, "panel(" + p + ", 2)", BAD, x -> x.panel(panel, 2));
            refused(where, maker, "mark(6, " + p + ")", NO, x -> x.mark(6, panel));
        }
    }

    private static void badSlots(String where, Maker maker, int panels) {
        for (int k : NO_SLOTS) {
            for (int what = -1; what <= 3; what++) {
                int w = what;
                refused(where, maker, "slot(" + k + ", " + w + ")", BAD, x -> x.slot(k, w));
            }
            refused(where, maker, "lit(" + k + ")", BAD, x -> x.lit(k));
            refused(where, maker, "piano(" + k + ")", BAD, x -> x.piano(k));
            refused(where, maker, "clue(" + k + ", 0)", BAD, x -> x.clue(k, 0));
            refused(where, maker, "clue(" + k + ", 1)", BAD, x -> x.clue(k, 1));
            refused(where, maker, "clue(" + k + ", 2)", BAD, x -> x.clue(k, 2));
            for (int p = 0; p < panels; p++) {
                int panel = p;
                refused(where, maker, "up(" + p + ", " + k + ")", BAD, x -> x.up(panel, k));
            }
        }
    }

    private static void badImages(String where, Maker maker) {
        for (int image : NO_IMAGES) {
            refused(where, maker, "fewest(" + image + ")", BAD, x -> x.fewest(image));
            refused(where, maker, "first(" + image + ")", BAD, x -> x.first(image));
            refused(where, maker, "nights(" + image + ")", BAD, x -> x.nights(image));
            refused(where, maker, "keep(" + image + ")", BAD, x -> x.keep(image));
            refused(where, maker, "back(" + image + ")", BAD, x -> x.back(image));
        }
    }

    // ---- STATE.

    private static void stateOfActs() {
        // Panels 2 and 3 lie, 0 bears the beams, 1 stands in slot 2; one act is left.
        String where = "a house with one act left";
        refused(where, Houses::house, "down(2)", STATE, x -> x.down(2));
        refused(where, Houses::house, "down(3)", STATE, x -> x.down(3));
        refused(where, Houses::house, "down(0)", STATE, x -> x.down(0));
        refused(where, Houses::house, "down(1)", STATE, x -> x.down(1));
        refused(where, Houses::house, "up(2, 0)", STATE, x -> x.up(2, 0));
        refused(where, Houses::house, "up(3, 2)", STATE, x -> x.up(3, 2));
        for (int k = 0; k < 8; k++) {
            int slot = k;
            refused(where, Houses::house, "up(0, " + k + ")", STATE, x -> x.up(0, slot));
            refused(where, Houses::house, "up(1, " + k + ")", STATE, x -> x.up(1, slot));
        }
        BedHouse x = Houses.house();
        DUE.is("but this act may be", 1, x.up(2, 2 + 4));
    }

    private static void stateOfBeams() {
        Maker maker = () -> {
            BedHouse x = Due.told("wall 8;glass 8;wall 4;beam 3 1;down 1;hands 9;");
            Due.write(x, "view 3;");
            x.clue(0, 0);
            x.keep(0);
            return x;
        };
        String where = "a house that is not lawful";
        for (int k = 0; k < 8; k++) {
            int slot = k;
            // Slot 4 has one; in 3 alone a wall would bear, but not glass.
            if (k != 3) {
                refused(where, maker, "up(0, " + k + ")", STATE, x -> x.up(0, slot));
            }
            refused(where, maker, "up(1, " + k + ")", STATE, x -> x.up(1, slot));
            refused(where, maker, "up(2, " + k + ")", STATE, x -> x.up(2, slot));
        }
        for (int p = 0; p < 3; p++) {
            int panel = p;
            refused(where, maker, "down(" + p + ")", STATE, x -> x.down(panel));
        }
        DUE.is("but this act may be", 1, maker.make().up(0, 3));
    }

    private static void stateOfHands() {
        for (int hands = 1; hands <= 9; hands++) {
            int all = hands;
            Maker maker = () -> {
                BedHouse x = Due.told("wall 0;glass 1;hands " + all + ";");
                for (int act = 0; act < all; act++) {
                    DUE.holds("act " + act + " of " + all, (act % 2 == 0 ? x.down(0) : x.up(0, 2 + act / 2)) >= 0);
                }
                x.keep(0);
                return x;
            };
            String where = "a day of " + hands + " acts that are done";
            refused(where, maker, "down(0)", STATE, x -> x.down(0));
            refused(where, maker, "down(1)", STATE, x -> x.down(1));
            refused(where, maker, "up(0, 0)", STATE, x -> x.up(0, 0));
            refused(where, maker, "up(1, 0)", STATE, x -> x.up(1, 0));
            refused(where, maker, "up(0, 8)", BAD, x -> x.up(0, 8));
            refused(where, maker, "down(2)", BAD, x -> x.down(2));
            BedHouse x = maker.make();
            DUE.is("acts", hands, x.now(1));
            x.night();
            DUE.is("acts of the next day", 0, x.now(1));
            DUE.is("the next day's first act", hands % 2 == 1 ? 2 : 1, x.down(1));
        }
    }

    private static void stateOfImages() {
        for (int kept = -1; kept < 2; kept++) {
            int image = kept;
            Maker maker = () -> {
                BedHouse x = Due.told("wall 0;glass 1;");
                x.keep(image);
                x.down(0);
                return x;
            };
            String where = "a house with image " + kept + " kept";
            for (int i = 0; i < 2; i++) {
                int other = i;
                if (i != kept) {
                    refused(where, maker, "fewest(" + i + ")", STATE, x -> x.fewest(other));
                    refused(where, maker, "first(" + i + ")", STATE, x -> x.first(other));
                    refused(where, maker, "nights(" + i + ")", STATE, x -> x.nights(other));
                    refused(where, maker, "back(" + i + ")", STATE, x -> x.back(other));
                }
            }
        }
    }

    private static void imagesGone() {
        Maker maker = () -> {
            BedHouse x = Houses.house();
            x.house();
            return x;
        };
        for (int i = 0; i < 2; i++) {
            int image = i;
            refused("a house read anew", maker, "back(" + i + ")", STATE, x -> x.back(image));
            refused("a house read anew", maker, "fewest(" + i + ")", STATE, x -> x.fewest(image));
            refused("a house read anew", maker, "first(" + i + ")", STATE, x -> x.first(image));
            refused("a house read anew", maker, "nights(" + i + ")", STATE, x -> x.nights(image));
        }
    }

    // ---- FULL, and faulty texts.

    private static void full() {
        for (int n = 1; n <= 8; n++) {
            int bytes = n;
            refused("a full text", Houses::spent, "type(x, " + n + ")", FULL,
                x -> x.type(0x3b3b3b3b3b3b3b3bL, bytes));
            Maker nearlyFull = () -> {
                BedHouse x = Houses.house();
                Due.write(x, " ".repeat(201 - 7 - bytes));
                return x;
            };
            refused("a text with room for " + (n - 1), nearlyFull, "type(x, " + n + ")", FULL,
                x -> x.type(0x3b3b3b3b3b3b3b3bL, bytes));
        }
        for (int hour = 0; hour < 8; hour++) {
            int h = hour;
            refused("eight clues", Houses::spent, "clue(" + h + ", 0)", FULL, x -> x.clue(h, 0));
            refused("eight clues", Houses::spent, "clue(" + h + ", 1)", FULL, x -> x.clue(h, 1));
        }
    }

    private static void faultyTexts() {
        // They stand behind the "wall 4;" that house() has typed.
        String[] texts = {"wall 5", "wall 4;", ";", "view 1;view 1", "#",
            "glass 3;sun 0 8;rain 0 8;down 4;hands 9;wall 3;"};
        int[] faults = {7 + 6, 7 + 5, 7, 7 + 7, 7, 7 + 45};
        for (int i = 0; i < texts.length; i++) {
            String text = texts[i];
            Maker maker = () -> {
                BedHouse x = Houses.house();
                Due.write(x, text);
                return x;
            };
            refused("a house with a faulty text", maker, "house of " + text, -10 - faults[i], BedHouse::house);
        }
    }
}
