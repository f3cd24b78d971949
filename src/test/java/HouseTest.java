/** Promises 1 to 8: a new object, THE TEXT, and what it tells. */
public final class HouseTest {
    private static final Due DUE = new Due("HouseTest");

    public static void main(String[] args) {
        newObject();
        typing();
        clearing();
        items();
        blanks();
        faultsOfItems();
        faultsOfTokens();
        faultsChangeNothing();
        readAnew();
        readAnewAndAgain();
        panels();
        slots();
        toldThings();
        beams();
        newObjectRefuses();
        fourPanels();
        lyingIsInNoSlot();
        twoBeams();
        noItems();
        DUE.close();
    }

    private static void newObject() {
        BedHouse x = new BedHouse();
        for (int what = 0; what <= 4; what++) {
            DUE.is("new count(" + what + ")", 0, x.count(what));
        }
        DUE.is("new told(0)", -9, x.told(0));
        DUE.is("new told(1)", -9, x.told(1));
        DUE.is("new told(2)", 3, x.told(2));
        DUE.is("new told(3)", 2, x.told(3));
        for (int k = 0; k < 8; k++) {
            DUE.is("new slot(" + k + ", 0)", -9, x.slot(k, 0));
            DUE.is("new slot(" + k + ", 1)", 0, x.slot(k, 1));
            DUE.is("new slot(" + k + ", 2)", 0, x.slot(k, 2));
            DUE.is("new lit(" + k + ")", 0, x.lit(k));
            DUE.is("new piano(" + k + ")", 0, x.piano(k));
        }
        for (int what = 0; what <= 5; what++) {
            DUE.is("new now(" + what + ")", what == 4 ? 1 : 0, x.now(what));
        }
        DUE.is("new trace()", 0, x.trace());
        DUE.is("new back(0)", -2, x.back(0));
        DUE.is("new best(-1)", 0, x.best(-1));
        DUE.is("new fit()", 1, x.fit());
        DUE.is("BAD", -1, BedHouse.BAD);
        DUE.is("STATE", -2, BedHouse.STATE);
        DUE.is("FULL", -3, BedHouse.FULL);
        DUE.is("NONE", -9, BedHouse.NONE);
        DUE.is("NO", -1000000, BedHouse.NO);
    }

    private static void typing() {
        BedHouse x = new BedHouse();
        DUE.is("type n 0", -1, x.type(1, 0));
        DUE.is("type n 9", -1, x.type(1, 9));
        DUE.is("type n -1", -1, x.type(1, -1));
        DUE.is("type n least", -1, x.type(1, Integer.MIN_VALUE));
        DUE.is("type n greatest", -1, x.type(1, Integer.MAX_VALUE));
        DUE.is("bytes behind BAD", 0, x.count(4));
        // The highest of the lowest n bytes comes first; what stands above them does not come.
        DUE.is("type vi", 2, x.type(('x' << 16) + ('v' << 8) + 'i', 2));
        DUE.is("type ew3;", 6, x.type(((long) 'e' << 24) + ('w' << 16) + ('3' << 8) + ';', 4));
        DUE.is("house of what was typed", 1, x.house());
        DUE.is("view typed", 3, x.told(0));
        // A byte above 127 is a byte all the same, and of a number below 0 too.
        DUE.is("type -1", 8, x.type(-1L, 8));
        DUE.is("bytes 255", -10, x.house());
        DUE.is("clear 255", 8, x.clear());
        for (int i = 1; i <= 24; i++) {
            DUE.is("type 8 bytes", 8 * i, x.type(0x2020202020202020L, 8));
        }
        DUE.is("type the 193rd", 193, x.type(' ', 1));
        DUE.is("type past 200", -3, x.type(0x2020202020202020L, 8));
        DUE.is("BAD ahead of FULL", -1, x.type(0, 9));
        DUE.is("type the 200th", 200, x.type(0x20202020202020L, 7));
        DUE.is("type the 201st", -3, x.type(' ', 1));
        DUE.is("bytes behind FULL", 200, x.count(4));
        DUE.is("200 blanks", 0, x.house());
    }

    private static void clearing() {
        BedHouse x = new BedHouse();
        DUE.is("clear nothing", 0, x.clear());
        Due.write(x, "wall 1;");
        DUE.is("clear 7", 7, x.clear());
        DUE.is("bytes behind clear", 0, x.count(4));
        DUE.is("clear again", 0, x.clear());
        DUE.is("house behind clear", 0, x.house());
        DUE.is("panels behind clear", 0, x.count(0));
    }

    private static void items() {
        BedHouse x = new BedHouse();
        DUE.is("all items", 11, Due.tell(x, "hands 9;down 4;noise 7;view 0;sun 7 2;rain 6 3;"
            + "beam 7 8;rotten 8;curtain 3;glass 0;wall 8;"));
        DUE.is("count(0)", 4, x.count(0));
        DUE.is("count(1)", 1, x.count(1));
        DUE.is("count(2)", 2, x.count(2));
        DUE.is("count(4)", 0, x.count(4));
        int[] sorts = {3, 2, 1, 0};
        int[] places = {8, 3, 0, 8};
        for (int p = 0; p < 4; p++) {
            DUE.is("sort of " + p, sorts[p], x.panel(p, 0));
            DUE.is("place of " + p, places[p], x.panel(p, 1));
        }
        String rain = "10000011";
        String sun = "10000001";
        for (int k = 0; k < 8; k++) {
            DUE.is("rain on " + k, rain.charAt(k) - '0', x.slot(k, 1));
            DUE.is("sun on " + k, sun.charAt(k) - '0', x.slot(k, 2));
        }
        DUE.is("no text", 0, x.house());
        DUE.is("panels of no text", 0, x.count(0));
        DUE.is("rain and sun told again", 4, Due.tell(x, "rain 0 1;rain 2 1;sun 1 1;sun 1 2;"));
        String both = "10100000";
        String more = "01100000";
        for (int k = 0; k < 8; k++) {
            DUE.is("rains on " + k, both.charAt(k) - '0', x.slot(k, 1));
            DUE.is("suns on " + k, more.charAt(k) - '0', x.slot(k, 2));
        }
    }

    private static void blanks() {
        BedHouse x = new BedHouse();
        DUE.is("no blanks", 4, Due.tell(x, "wall3;beam2 7;view1;hands1;"));
        DUE.is("wall told", 3, x.panel(0, 1));
        DUE.is("many blanks", 2, Due.tell(x, "   wall   4  ;  sun  0   8  ;   "));
        DUE.is("wall told", 4, x.panel(0, 1));
        DUE.is("a word is not broken", -10, Due.tell(x, "wa ll 4;"));
        x.clear();
        DUE.is("words run together", -10, Due.tell(x, "wallglass 4;"));
        x.clear();
        DUE.is("a number is not broken", -18, Due.tell(x, "hands 1 0;"));
        x.clear();
        DUE.is("tab", -14, Due.tell(x, "wall\t4;"));
        x.clear();
    }

    private static void fault(int place, String text) {
        BedHouse x = new BedHouse();
        DUE.is("house of '" + text + "'", -10 - place, Due.tell(x, text));
        DUE.is("bytes of '" + text + "' stay", text.length(), x.count(4));
    }

    private static void faultsOfItems() {
        fault(5, "wall 9;");
        fault(6, "glass 9;");
        fault(8, "curtain 9;");
        fault(7, "rotten 9;");
        fault(5, "beam 8 1;");
        fault(7, "beam 7 0;");
        fault(7, "beam 7 9;");
        fault(5, "rain 8 1;");
        fault(7, "rain 0 0;");
        fault(7, "rain 0 9;");
        fault(4, "sun 8 1;");
        fault(6, "sun 0 0;");
        fault(6, "sun 0 9;");
        fault(5, "view 8;");
        fault(6, "noise 8;");
        fault(5, "down 5;");
        fault(6, "hands 0;");
        fault(6, "hands 10;");
        fault(7, "view 1;view 1;");
        fault(8, "noise 1;noise 2;");
        fault(7, "down 3;down 3;");
        fault(8, "hands 2;hands 2;");
        fault(13, "wall 1;glass 1;");
        fault(26, "wall 8;wall 8;wall 0;wall 0;");
        // A fifth PANEL and a third BEAM are at fault by their word.
        fault(29, "wall 8;glass 8;wall 0;wall 1;wall 2;");
        fault(28, "wall 8;wall 8;wall 0;wall 1;rotten 2;");
        fault(18, "beam 0 1;beam 0 1;beam 0 1;");
    }

    private static void faultsOfTokens() {
        fault(0, ";");
        fault(7, "wall 1;;");
        fault(0, "3;");
        fault(0, "walls 1;");
        fault(0, "wal 1;");
        fault(0, "Wall 1;");
        fault(0, "wAll 1;");
        fault(1, " WALL 1;");
        fault(0, "door 1;");
        fault(0, "ball 1;");
        fault(0, "wallz 1;");
        fault(0, "awall 1;");
        fault(4, "wall`1;");
        fault(4, "wall{1;");
        fault(6, "wall 1/;");
        fault(6, "wall 1:;");
        fault(2, "  wal");
        fault(5, "wall wall 1;");
        fault(5, "wall ;");
        fault(7, "wall 1 2;");
        fault(8, "wall 1  2;");
        fault(5, "wall 12;");
        fault(6, "beam 1;");
        fault(9, "beam 1 2 3;");
        fault(7, "wall 1 wall 2;");
        fault(6, "wall 1wall 2;");
        fault(5, "wall 01;");
        fault(5, "wall 00;");
        fault(5, "wall 100;");
        fault(5, "wall 4294967296;");
        fault(5, "wall 18446744073709551616;");
        fault(5, "wall -1;");
        fault(6, "wall 1.;");
        fault(6, "wall 1,2;");
        fault(8, "hands 2;\u00c8");
        fault(0, "\0");
        // Texts that end too early: their length.
        fault(4, "wall");
        fault(5, "wall ");
        fault(6, "wall 1");
        fault(9, "wall 1   ");
        fault(6, "beam 1");
        fault(8, "beam 1 8");
        fault(13, "wall 1;wall 2");
        fault(200, "wall 8" + " ".repeat(194));
        DUE.is("0 alone is no fault", 1, Due.tell(new BedHouse(), "wall 0;"));
    }

    private static void faultsChangeNothing() {
        BedHouse x = Due.told("wall 2;beam 2 1;rain 5 1;sun 6 1;view 4;noise 3;down 1;hands 7;");
        x.night();
        x.clue(3, 1);
        x.keep(1);
        DUE.is("a fault behind many items", -10 - 78, Due.tell(x,
            "glass 0;rotten 1;beam 0 1;beam 0 2;rain 0 8;view 0;noise 0;down 4;hands 3;sun 8 8;"));
        DUE.is("bytes", 82, x.count(4));
        DUE.is("panels", 1, x.count(0));
        DUE.is("beams", 1, x.count(1));
        DUE.is("clues", 1, x.count(3));
        DUE.is("panel", 0, x.panel(0, 0));
        DUE.is("place", 2, x.panel(0, 1));
        DUE.is("rain", 0, x.slot(0, 1));
        DUE.is("view", 4, x.told(0));
        DUE.is("noise", 3, x.told(1));
        DUE.is("down", 1, x.told(2));
        DUE.is("hands", 7, x.told(3));
        DUE.is("day", 1, x.now(0));
        DUE.is("leaks", 1, x.now(2));
        DUE.is("image", 1, x.back(1));
        DUE.is("the same fault again", -10 - 78, x.house());
    }

    private static void readAnew() {
        BedHouse x = Due.told("wall 2;beam 2 1;rain 5 1;sun 6 1;view 4;noise 3;down 1;hands 7;");
        x.night();
        x.clue(3, 1);
        x.keep(0);
        x.keep(1);
        x.mark(0, 0);
        DUE.is("house read anew", 1, Due.tell(x, "glass 8;"));
        DUE.is("panels", 1, x.count(0));
        DUE.is("sort", 1, x.panel(0, 0));
        DUE.is("place", 8, x.panel(0, 1));
        DUE.is("beams", 0, x.count(1));
        DUE.is("clues", 0, x.count(3));
        DUE.is("text", 0, x.count(4));
        DUE.is("rain", 0, x.slot(5, 1));
        DUE.is("sun", 0, x.slot(6, 2));
        DUE.is("view", -9, x.told(0));
        DUE.is("noise", -9, x.told(1));
        DUE.is("down", 3, x.told(2));
        DUE.is("hands", 2, x.told(3));
        DUE.is("day", 0, x.now(0));
        DUE.is("leaks", 0, x.now(2));
        DUE.is("image 0 gone", -2, x.back(0));
        DUE.is("image 1 gone", -2, x.back(1));
        DUE.is("trace stays", 1, x.trace());
        x.up(0, 3);
        DUE.is("acts", 1, x.now(1));
        x.house();
        DUE.is("acts anew", 0, x.now(1));
    }

    private static void readAnewAndAgain() {
        BedHouse x = Due.told("curtain 3;glass 4;sun 0 8;");
        x.clue(0, 1);
        x.clue(3, 0);
        DUE.is("fit of the first", 8, x.fit());
        Due.tell(x, "curtain 5;sun 0 8;");
        DUE.is("place in the second", 5, x.panel(0, 1));
        DUE.is("fit of the second, with no clues", 9, x.fit());
        Due.tell(x, "curtain 6;wall 7;sun 0 8;beam 7 1;");
        DUE.is("place in the third", 6, x.panel(0, 1));
        DUE.is("place in the third", 7, x.panel(1, 1));
        DUE.is("fit of the third", 8, x.fit());
        DUE.is("best of the third", 21, x.best(-1));
        DUE.is("piano in the third", -9, x.piano(6));
        Due.tell(x, "wall 8;wall 8;down 0;");
        DUE.is("fit of the fourth", 56, x.fit());
        DUE.is("best of the fourth", 1, x.best(1));
    }

    private static void panels() {
        BedHouse x = Due.told("wall 3;rotten 8;");
        DUE.is("panel(0, 0)", 0, x.panel(0, 0));
        DUE.is("panel(0, 1)", 3, x.panel(0, 1));
        DUE.is("panel(1, 0)", 3, x.panel(1, 0));
        DUE.is("panel(1, 1)", 8, x.panel(1, 1));
        DUE.is("panel(2, 0)", -1, x.panel(2, 0));
        DUE.is("panel(-1, 0)", -1, x.panel(-1, 0));
        DUE.is("panel(0, 2)", -1, x.panel(0, 2));
        DUE.is("panel(0, -1)", -1, x.panel(0, -1));
        DUE.is("panel(least, 0)", -1, x.panel(Integer.MIN_VALUE, 0));
        DUE.is("panel(greatest, 0)", -1, x.panel(Integer.MAX_VALUE, 0));
    }

    private static void slots() {
        BedHouse x = Due.told("wall 0;glass 7;curtain 8;rain 7 2;sun 5 8;");
        DUE.is("slot(0, 0)", 0, x.slot(0, 0));
        DUE.is("slot(7, 0)", 1, x.slot(7, 0));
        DUE.is("slot(3, 0)", -9, x.slot(3, 0));
        DUE.is("slot(7, 1)", 1, x.slot(7, 1));
        DUE.is("slot(0, 1)", 1, x.slot(0, 1));
        DUE.is("slot(1, 1)", 0, x.slot(1, 1));
        DUE.is("slot(6, 1)", 0, x.slot(6, 1));
        DUE.is("slot(4, 2)", 1, x.slot(4, 2));
        DUE.is("slot(8, 0)", -1, x.slot(8, 0));
        DUE.is("slot(-1, 0)", -1, x.slot(-1, 0));
        DUE.is("slot(0, 3)", -1, x.slot(0, 3));
        DUE.is("slot(0, -1)", -1, x.slot(0, -1));
        DUE.is("slot(least, 1)", -1, x.slot(Integer.MIN_VALUE, 1));
        DUE.is("slot(greatest, 1)", -1, x.slot(Integer.MAX_VALUE, 1));
    }

    private static void toldThings() {
        BedHouse x = Due.told("view 0;noise 7;down 0;hands 1;");
        DUE.is("told(0)", 0, x.told(0));
        DUE.is("told(1)", 7, x.told(1));
        DUE.is("told(2)", 0, x.told(2));
        DUE.is("told(3)", 1, x.told(3));
        DUE.is("told(4)", -1, x.told(4));
        DUE.is("told(-1)", -1, x.told(-1));
        DUE.is("down 4", 4, Due.told("down 4;").told(2));
        DUE.is("hands 9", 9, Due.told("hands 9;").told(3));
    }

    private static void beams() {
        BedHouse x = Due.told("wall 1;glass 4;beam 7 2;beam 7 3;down 4;");
        DUE.is("beam(0): 7, 0", 0, x.beam(0));
        DUE.is("beam(1): 7, 0, 1", 1, x.beam(1));
        DUE.is("beam(2)", -1, x.beam(2));
        DUE.is("beam(-1)", -1, x.beam(-1));
        DUE.is("beam(0) of none", -1, Due.told("wall 0;").beam(0));
        DUE.is("glass bears none", 0, Due.told("glass 4;beam 4 1;").beam(0));
        DUE.is("curtain bears none", 0, Due.told("curtain 4;beam 4 1;").beam(0));
        DUE.is("rotten bears none", 0, Due.told("rotten 4;beam 4 1;").beam(0));
        DUE.is("a wall that lies bears none", 0, Due.told("wall 8;beam 0 8;").beam(0));
        DUE.is("beam of 8 from 5", 1, Due.told("wall 4;beam 5 8;").beam(0));
        DUE.is("beam of 7 from 5", 0, Due.told("wall 4;beam 5 7;").beam(0));
    }

    private static void newObjectRefuses() {
        BedHouse x = new BedHouse();
        DUE.is("new panel(0, 0)", -1, x.panel(0, 0));
        DUE.is("new beam(0)", -1, x.beam(0));
        DUE.is("new down(0)", -1, x.down(0));
        DUE.is("new up(0, 0)", -1, x.up(0, 0));
        DUE.is("new sure(0)", -1, x.sure(0));
        DUE.is("new best(0)", -1000000, x.best(0));
        DUE.is("new mark(0, 0)", -1000000, x.mark(0, 0));
        for (int image = 0; image < 2; image++) {
            DUE.is("new back", -2, x.back(image));
            DUE.is("new fewest", -2, x.fewest(image));
            DUE.is("new first", -2, x.first(image));
            DUE.is("new nights", -2, x.nights(image));
        }
        DUE.is("new clear()", 0, x.clear());
        DUE.is("new forget()", 0, x.forget());
        DUE.is("new night()", 0, x.night());
        DUE.is("day behind it", 1, x.now(0));
        DUE.is("keep(1)", 1, x.keep(1));
        DUE.is("back(1)", 1, x.back(1));
        DUE.is("clue(0, 0)", 1, x.clue(0, 0));
        DUE.is("fit", 1, x.fit());
        DUE.is("clue(0, 1)", 2, x.clue(0, 1));
        DUE.is("fit", 0, x.fit());
        DUE.is("house() of no text", 0, x.house());
        DUE.is("day anew", 0, x.now(0));
        DUE.is("image gone", -2, x.back(1));
        DUE.is("fit anew", 1, x.fit());
        BedHouse other = new BedHouse();
        Due.tell(x, "wall 0;");
        DUE.is("another object is another house", 0, other.count(0));
    }

    private static void fourPanels() {
        BedHouse x = Due.told("rotten 0;curtain 7;glass 8;wall 3;");
        int[] sorts = {3, 2, 1, 0};
        int[] places = {0, 7, 8, 3};
        for (int p = 0; p < 4; p++) {
            DUE.is("panel(" + p + ", 0)", sorts[p], x.panel(p, 0));
            DUE.is("panel(" + p + ", 1)", places[p], x.panel(p, 1));
            DUE.is("panel(" + p + ", 2)", -1, x.panel(p, 2));
        }
        DUE.is("panel(4, 0)", -1, x.panel(4, 0));
        DUE.is("panel(4, 1)", -1, x.panel(4, 1));
        for (int panels = 0; panels <= 4; panels++) {
            BedHouse y = Due.told("wall 8;".repeat(panels));
            DUE.is("panels", panels, y.count(0));
            for (int p = 0; p < 5; p++) {
                DUE.is("panel " + p + " of " + panels, p < panels ? 8 : -1, y.panel(p, 1));
            }
        }
    }

    private static void lyingIsInNoSlot() {
        BedHouse x = Due.told("wall 8;glass 8;curtain 8;rotten 8;");
        for (int k = 0; k < 8; k++) {
            DUE.is("slot(" + k + ", 0)", -9, x.slot(k, 0));
        }
        for (int k = 0; k < 8; k++) {
            BedHouse y = Due.told("glass 8;rotten " + k + ";");
            for (int other = 0; other < 8; other++) {
                DUE.is("slot(" + other + ", 0) of " + k, other == k ? 1 : -9, y.slot(other, 0));
            }
        }
    }

    private static void twoBeams() {
        for (int beams = 0; beams <= 2; beams++) {
            BedHouse x = Due.told("beam 0 8;".repeat(beams) + "wall 4;");
            DUE.is("beams", beams, x.count(1));
            for (int k = 0; k <= 2; k++) {
                DUE.is("beam(" + k + ") of " + beams, k < beams ? 1 : -1, x.beam(k));
            }
            DUE.is("beam(least)", -1, x.beam(Integer.MIN_VALUE));
            DUE.is("beam(greatest)", -1, x.beam(Integer.MAX_VALUE));
        }
    }

    private static void noItems() {
        String[] texts = {"", " ", "        "};
        for (String text : texts) {
            BedHouse x = Due.told("wall 2;beam 2 1;rain 5 1;sun 6 1;view 4;noise 3;down 1;hands 7;");
            x.keep(0);
            DUE.is("house of '" + text + "'", 0, Due.tell(x, text));
            DUE.is("text", 0, x.count(4));
            DUE.is("panels", 0, x.count(0));
            DUE.is("beams", 0, x.count(1));
            DUE.is("rain", 0, x.slot(5, 1));
            DUE.is("sun", 0, x.slot(6, 2));
            int[] told = {-9, -9, 3, 2, -1};
            for (int what = 0; what < 5; what++) {
                DUE.is("told(" + what + ")", told[what], x.told(what));
            }
            DUE.is("told(least)", -1, x.told(Integer.MIN_VALUE));
            DUE.is("told(greatest)", -1, x.told(Integer.MAX_VALUE));
            DUE.is("image", -2, x.back(0));
        }
    }
}
