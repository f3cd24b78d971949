/** Promises 14 to 18: FEWEST, FIRST, NIGHTS, PIANO and BEST. */
public final class WaysTest {
    private static final Due DUE = new Due("WaysTest");

    public static void main(String[] args) {
        refused();
        itIsThat();
        eachAskedFirst();
        swapWithOneThatMayLie();
        swapWithTwoThatMayLie();
        firstBySlots();
        firstByPanels();
        notLawfulAhead();
        notLawfulThere();
        parted();
        handsLeft();
        dryNights();
        dryNightOfAHouseThatIsNotLawful();
        piano();
        pianoThatCannot();
        best();
        nothingIsChanged();
        DUE.close();
    }

    private static void ways(String what, BedHouse x, int image, int fewest, int first, int nights) {
        DUE.is(what + ": fewest", fewest, x.fewest(image));
        DUE.is(what + ": first", first, x.first(image));
        DUE.is(what + ": nights", nights, x.nights(image));
    }

    private static void refused() {
        BedHouse x = Due.told("wall 0;");
        x.keep(1);
        int[] none = {2, -1, Integer.MIN_VALUE, Integer.MAX_VALUE};
        for (int image : none) {
            ways("image " + image, x, image, -1, -1, -1);
        }
        ways("not kept", x, 0, -2, -2, -2);
        ways("kept", x, 1, 0, -9, 0);
        x.house();
        ways("gone", x, 1, -2, -2, -2);
    }

    private static void itIsThat() {
        BedHouse x = Due.told("wall 0;hands 1;rain 1 1;");
        x.keep(0);
        x.night();
        ways("another day, the same house", x, 0, 0, -9, 0);
        x.down(0);
        x.night();
        x.up(0, 0);
        ways("all acts are done", x, 0, 0, -9, 0);
    }

    private static void eachAskedFirst() {
        for (int asked = 0; asked < 3; asked++) {
            BedHouse x = Due.told("wall 7;hands 1;");
            x.keep(0);
            x.down(0);
            int got = asked == 0 ? x.fewest(0) : asked == 1 ? x.first(0) : x.nights(0);
            DUE.is("asked first: " + asked, asked == 1 ? 7 : 1, got);
            Due.tell(x, "glass 2;hands 1;beam 2 1;");
            x.keep(0);
            DUE.is("asked anew", -9, x.piano(1));
        }
    }

    private static BedHouse swapped(String more) {
        BedHouse x = Due.told("wall 0;wall 1;hands 9;" + more);
        x.keep(0);
        x.down(0);
        x.up(0, 2);
        x.down(1);
        x.up(1, 0);
        x.down(0);
        DUE.is("swapped by six acts", 0, x.up(0, 1));
        return x;
    }

    private static void swapWithOneThatMayLie() {
        BedHouse x = swapped("down 1;");
        ways("swap, three acts left", x, 0, 6, 8, 1);
        x.night();
        ways("swap, a day's acts left", x, 0, 6, 8, 0);
    }

    private static void swapWithTwoThatMayLie() {
        BedHouse x = swapped("down 2;");
        ways("swap, three acts left", x, 0, 4, 8, 1);
        x.night();
        ways("swap, a day's acts left", x, 0, 4, 8, 0);
    }

    private static void firstBySlots() {
        // Wall 0 must wait elsewhere than in 1, where wall 1 has to go: in 2.
        BedHouse x = Due.told("wall 0;wall 1;down 1;hands 9;");
        x.keep(0);
        x.down(0);
        x.up(0, 2);
        x.down(1);
        x.up(1, 0);
        x.down(0);
        ways("one lies", x, 0, 5, 2, 1);
        x.up(0, 7);
        ways("all stand", x, 0, 4, 18, 1);
    }

    private static void firstByPanels() {
        BedHouse x = Due.told("wall 0;glass 1;curtain 2;hands 9;");
        x.keep(0);
        x.down(1);
        x.down(2);
        ways("two lie", x, 0, 2, 11, 0);
        x.up(1, 5);
        ways("one lies, one stands elsewhere", x, 0, 3, 18, 0);
        x.up(2, 2);
        ways("one stands elsewhere", x, 0, 2, 18, 0);
        x.down(1);
        x.up(1, 1);
        x.down(0);
        ways("panel 0 lies", x, 0, 1, 0, 0);
    }

    private static void notLawfulAhead() {
        BedHouse x = Due.told("wall 8;wall 8;beam 1 1;down 1;hands 2;");
        x.keep(0);
        ways("it is not lawful, but it is that", x, 0, 0, -9, 0);
        x.up(1, 1);
        x.keep(1);
        x.back(0);
        ways("to a lawful one", x, 1, 1, 11, 0);
        DUE.is("piano by 3 there", 0, x.piano(3));
        DUE.is("piano by 1 there", 0, x.piano(1));
    }

    private static void notLawfulThere() {
        BedHouse x = Due.told("wall 8;beam 1 1;down 3;hands 9;");
        x.keep(0);
        x.up(0, 1);
        ways("to one that is not lawful", x, 0, -9, -9, -9);
    }

    private static void parted() {
        // Whichever wall bears the beam can't be taken down again.
        BedHouse x = Due.told("wall 8;wall 8;beam 1 1;down 1;hands 9;");
        x.keep(0);
        x.up(0, 1);
        x.keep(1);
        x.back(0);
        x.up(1, 1);
        x.up(0, 5);
        ways("two lawful houses with no way", x, 1, -9, -9, -9);
    }

    private static void handsLeft() {
        BedHouse x = Due.told("wall 0;wall 1;down 1;hands 1;");
        x.keep(0);
        x.down(0);
        x.night();
        x.up(0, 2);
        x.night();
        x.down(1);
        x.night();
        x.up(1, 0);
        x.night();
        x.down(0);
        x.night();
        x.up(0, 1);
        ways("no act left on this day", x, 0, 6, 8, 6);
        x.night();
        ways("one act left on this day", x, 0, 6, 8, 5);
    }

    private static void dryNights() {
        // Slot 0 may be bare by day only: two acts of one day.
        BedHouse x = Due.told("wall 0;wall 1;down 2;hands 2;rain 0 1;");
        x.keep(0);
        x.down(1);
        x.night();
        x.down(0);
        x.up(1, 0);
        x.night();
        x.up(0, 1);
        ways("one act left", x, 0, 4, 8, 2);
        x.night();
        ways("two acts left", x, 0, 4, 8, 2);
        x.down(1);
        x.keep(1);
        ways("it leaks, one act left", x, 0, 3, 8, 3);
        x.up(1, 3);
        ways("it leaks, no act left", x, 1, 1, 18, -9);
        x.night();
        ways("it leaks, but this is another day", x, 1, 1, 18, 0);
        BedHouse y = Due.told("wall 0;wall 1;down 2;hands 1;rain 0 1;");
        y.keep(0);
        y.down(0);
        y.night();
        y.up(0, 0);
        y.night();
        y.down(1);
        y.night();
        y.up(1, 2);
        ways("by one act a day", y, 0, 2, 18, 2);
        y.night();
        y.down(0);
        y.night();
        y.up(0, 3);
        ways("bare and no act left", y, 0, 4, 8, -9);
        y.night();
        ways("bare and one act left", y, 0, 4, 8, -9);
    }

    private static void dryNightOfAHouseThatIsNotLawful() {
        BedHouse x = Due.told("wall 8;wall 8;beam 1 1;down 1;hands 1;");
        x.keep(0);
        x.up(0, 1);
        x.night();
        x.up(1, 2);
        x.keep(1);
        x.back(0);
        ways("it is dry and need not be lawful", x, 1, 2, 1, 1);
        x.night();
        ways("nor behind a night", x, 1, 2, 1, 1);
    }

    private static void piano() {
        BedHouse x = Due.told("wall 0;glass 1;curtain 2;rotten 3;");
        int[] acts = {2, 2, 2, 1, 0, 0, 0, 1};
        for (int k = 0; k < 8; k++) {
            DUE.is("piano(" + k + ")", acts[k], x.piano(k));
        }
        DUE.is("piano(8)", -1, x.piano(8));
        DUE.is("piano(-1)", -1, x.piano(-1));
        DUE.is("piano(least)", -1, x.piano(Integer.MIN_VALUE));
        DUE.is("piano(greatest)", -1, x.piano(Integer.MAX_VALUE));
        BedHouse y = Due.told("wall 0;glass 1;curtain 2;rotten 8;down 1;");
        DUE.is("rotten goes up first", 2, y.piano(2));
        DUE.is("and glass elsewhere", 4, y.piano(0));
        DUE.is("none needed", 0, y.piano(3));
    }

    private static void pianoThatCannot() {
        BedHouse x = Due.told("wall 0;beam 0 1;");
        DUE.is("the beam's slot", -9, x.piano(0));
        DUE.is("the beam's slot is the next", -9, x.piano(7));
        DUE.is("beside it", 0, x.piano(1));
        BedHouse y = Due.told("wall 0;wall 4;beam 0 2;down 1;");
        DUE.is("the other wall must bear in 1 first, but then it is not empty", -9, y.piano(0));
        DUE.is("the other wall bears in 1", 3, y.piano(7));
        BedHouse z = Due.told("wall 0;down 0;");
        DUE.is("none may lie", -9, z.piano(0));
        DUE.is("none may lie", 0, z.piano(1));
        DUE.is("none may lie", -9, z.piano(7));
        BedHouse w = Due.told("curtain 3;wall 8;wall 8;beam 1 1;down 1;");
        DUE.is("not lawful, and no act leads on", 0, w.piano(1));
        DUE.is("by a lawful house", 3, w.piano(3));
    }

    private static void best() {
        BedHouse x = Due.told("wall 3;noise 5;");
        DUE.is("a wall against the noise", 4, x.best(-1));
        DUE.is("it stands there", 5, x.best(0));
        DUE.is("best(1)", -1000000, x.best(1));
        DUE.is("best(-2)", -1000000, x.best(-2));
        DUE.is("best(least)", -1000000, x.best(Integer.MIN_VALUE));
        DUE.is("best(greatest)", -1000000, x.best(Integer.MAX_VALUE));
        DUE.is("of equal ones the first slot", 0, Due.told("wall 8;").best(0));
        DUE.is("lying comes last", 1, Due.told("wall 8;glass 8;").best(1));
        BedHouse y = Due.told("wall 3;sun 0 8;");
        DUE.is("lying is best", 24, y.best(-1));
        DUE.is("it lies", 8, y.best(0));
        BedHouse z = Due.told("wall 3;sun 0 8;down 0;");
        DUE.is("it may not lie", 21, z.best(-1));
        DUE.is("it stands in the first", 0, z.best(0));
        BedHouse w = Due.told("rotten 0;beam 0 8;");
        DUE.is("none is lawful", -1000000, w.best(-1));
        DUE.is("none is lawful", -1000000, w.best(0));
        BedHouse v = Due.told("rain 0 8;");
        DUE.is("below 0", -16, v.best(-1));
        BedHouse u = Due.told("wall 8;wall 8;noise 2;");
        DUE.is("panel 0 first", 0, u.best(0));
        DUE.is("so panel 1 is against the noise", 2, u.best(1));
        BedHouse t = Due.told("wall 8;wall 8;beam 1 1;down 1;");
        DUE.is("now need not be lawful", 0, t.best(-1));
        DUE.is("panel 0", 0, t.best(0));
        DUE.is("panel 1 bears", 1, t.best(1));
    }

    private static void nothingIsChanged() {
        BedHouse x = swapped("down 1;rain 5 2;sun 0 8;");
        for (int i = 0; i < 2; i++) {
            ways("twice", x, 0, 6, 8, -9);
            DUE.is("piano", 3, x.piano(0));
            DUE.is("best", 19, x.best(-1));
            DUE.is("place of 0", 1, x.panel(0, 1));
            DUE.is("place of 1", 0, x.panel(1, 1));
            DUE.is("acts", 6, x.now(1));
            DUE.is("day", 0, x.now(0));
            DUE.is("leaks", 0, x.now(2));
            DUE.is("trace", 0, x.trace());
        }
    }
}
