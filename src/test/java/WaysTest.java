/** Promises 14 to 18: FEWEST, FIRST, NIGHTS, PIANO and BEST. */
public final class WaysTest {
    private static final Due DUE = new Due("WaysTest");

    public static void main(String[] args) {
        refused();
        itIsThat();
        eachAskedFirst();
        swapWithOneThatMayLie();
        swapWithTwoThatMayLie();
        firstBySlots();
        firstByPanels();
        notLawfulAhead();
        notLawfulThere();
        parted();
        handsLeft();
        dryNights();
        dryNightOfAHouseThatIsNotLawful();
        piano();
        pianoThatCannot();
        best();
        nothingIsChanged();
        twentyNights();
        firstAtItsBounds();
        nightsByActsLeft();
        theLastDayNeedNotBeDry();
        theFirstNightMustBeDry();
        bothImages();
        pianoRoundTheBed();
        bestAtItsBounds();
        noPanels();
        nowNotLawfulAndNoWay();
        DUE.close();
    }

    private static void ways(String what, BedHouse x, int image, int fewest, int first, int nights) {
        DUE.is(what + ": fewest", fewest, x.fewest(image));
        DUE.is(what + ": first", first, x.first(image));
        DUE.is(what + ": nights", nights, x.nights(image));
    }

    private static void refused() {
        BedHouse x = Due.told("wall 0;");
        x.keep(1);
        int[] none = {2, -1, Integer.MIN_VALUE, Integer.MAX_VALUE};
        for (int image : none) {
            ways("image " + image, x, image, -1, -1, -1);
        }
        ways("not kept", x, 0, -2, -2, -2);
        ways("kept", x, 1, 0, -9, 0);
        x.house();
        ways("gone", x, 1, -2, -2, -2);
    }

    private static void itIsThat() {
        BedHouse x = Due.told("wall 0;hands 1;rain 1 1;");
        x.keep(0);
        x.night();
        ways("another day, the same house", x, 0, 0, -9, 0);
        x.down(0);
        x.night();
        x.up(0, 0);
        ways("all acts are done", x, 0, 0, -9, 0);
    }

    private static void eachAskedFirst() {
        for (int asked = 0; asked < 3; asked++) {
            BedHouse x = Due.told("wall 7;hands 1;");
            x.keep(0);
            x.down(0);
            int got = asked == 0 ? x.fewest(0) : asked == 1 ? x.first(0) : x.nights(0);
            DUE.is("asked first: " + asked, asked == 1 ? 7 : 1, got);
            Due.tell(x, "glass 2;hands 1;beam 2 1;");
            x.keep(0);
            DUE.is("asked anew", -9, x.piano(1));
        }
    }

    private static BedHouse swapped(String more) {
        BedHouse x = Due.told("wall 0;wall 1;hands 9;" + more);
        x.keep(0);
        x.down(0);
        x.up(0, 2);
        x.down(1);
        x.up(1, 0);
        x.down(0);
        DUE.is("swapped by six acts", 0, x.up(0, 1));
        return x;
    }

    private static void swapWithOneThatMayLie() {
        BedHouse x = swapped("down 1;");
        ways("swap, three acts left", x, 0, 6, 8, 1);
        x.night();
        ways("swap, a day's acts left", x, 0, 6, 8, 0);
    }

    private static void swapWithTwoThatMayLie() {
        BedHouse x = swapped("down 2;");
        ways("swap, three acts left", x, 0, 4, 8, 1);
        x.night();
        ways("swap, a day's acts left", x, 0, 4, 8, 0);
    }

    private static void firstBySlots() {
        // Wall 0 must wait elsewhere than in 1, where wall 1 has to go: in 2.
        BedHouse x = Due.told("wall 0;wall 1;down 1;hands 9;");
        x.keep(0);
        x.down(0);
        x.up(0, 2);
        x.down(1);
        x.up(1, 0);
        x.down(0);
        ways("one lies", x, 0, 5, 2, 1);
        x.up(0, 7);
        ways("all stand", x, 0, 4, 18, 1);
    }

    private static void firstByPanels() {
        BedHouse x = Due.told("wall 0;glass 1;curtain 2;hands 9;");
        x.keep(0);
        x.down(1);
        x.down(2);
        ways("two lie", x, 0, 2, 11, 0);
        x.up(1, 5);
        ways("one lies, one stands elsewhere", x, 0, 3, 18, 0);
        x.up(2, 2);
        ways("one stands elsewhere", x, 0, 2, 18, 0);
        x.down(1);
        x.up(1, 1);
        x.down(0);
        ways("panel 0 lies", x, 0, 1, 0, 0);
    }

    private static void notLawfulAhead() {
        BedHouse x = Due.told("wall 8;wall 8;beam 1 1;down 1;hands 2;");
        x.keep(0);
        ways("it is not lawful, but it is that", x, 0, 0, -9, 0);
        x.up(1, 1);
        x.keep(1);
        x.back(0);
        ways("to a lawful one", x, 1, 1, 11, 0);
        DUE.is("piano by 3 there", 0, x.piano(3));
        DUE.is("piano by 1 there", 0, x.piano(1));
    }

    private static void notLawfulThere() {
        BedHouse x = Due.told("wall 8;beam 1 1;down 3;hands 9;");
        x.keep(0);
        x.up(0, 1);
        ways("to one that is not lawful", x, 0, -9, -9, -9);
    }

    private static void parted() {
        // Whichever wall bears the beam can't be taken down again.
        BedHouse x = Due.told("wall 8;wall 8;beam 1 1;down 1;hands 9;");
        x.keep(0);
        x.up(0, 1);
        x.keep(1);
        x.back(0);
        x.up(1, 1);
        x.up(0, 5);
        ways("two lawful houses with no way", x, 1, -9, -9, -9);
    }

    private static void handsLeft() {
        BedHouse x = Due.told("wall 0;wall 1;down 1;hands 1;");
        x.keep(0);
        x.down(0);
        x.night();
        x.up(0, 2);
        x.night();
        x.down(1);
        x.night();
        x.up(1, 0);
        x.night();
        x.down(0);
        x.night();
        x.up(0, 1);
        ways("no act left on this day", x, 0, 6, 8, 6);
        x.night();
        ways("one act left on this day", x, 0, 6, 8, 5);
    }

    private static void dryNights() {
        // Slot 0 may be bare by day only: two acts of one day.
        BedHouse x = Due.told("wall 0;wall 1;down 2;hands 2;rain 0 1;");
        x.keep(0);
        x.down(1);
        x.night();
        x.down(0);
        x.up(1, 0);
        x.night();
        x.up(0, 1);
        ways("one act left", x, 0, 4, 8, 2);
        x.night();
        ways("two acts left", x, 0, 4, 8, 2);
        x.down(1);
        x.keep(1);
        ways("it leaks, one act left", x, 0, 3, 8, 3);
        x.up(1, 3);
        ways("it leaks, no act left", x, 1, 1, 18, -9);
        x.night();
        ways("it leaks, but this is another day", x, 1, 1, 18, 0);
        BedHouse y = Due.told("wall 0;wall 1;down 2;hands 1;rain 0 1;");
        y.keep(0);
        y.down(0);
        y.night();
        y.up(0, 0);
        y.night();
        y.down(1);
        y.night();
        y.up(1, 2);
        ways("by one act a day", y, 0, 2, 18, 2);
        y.night();
        y.down(0);
        y.night();
        y.up(0, 3);
        ways("bare and no act left", y, 0, 4, 8, -9);
        y.night();
        ways("bare and one act left", y, 0, 4, 8, -9);
    }

    private static void dryNightOfAHouseThatIsNotLawful() {
        BedHouse x = Due.told("wall 8;wall 8;beam 1 1;down 1;hands 1;");
        x.keep(0);
        x.up(0, 1);
        x.night();
        x.up(1, 2);
        x.keep(1);
        x.back(0);
        ways("it is dry and need not be lawful", x, 1, 2, 1, 1);
        x.night();
        ways("nor behind a night", x, 1, 2, 1, 1);
    }

    private static void piano() {
        BedHouse x = Due.told("wall 0;glass 1;curtain 2;rotten 3;");
        int[] acts = {2, 2, 2, 1, 0, 0, 0, 1};
        for (int k = 0; k < 8; k++) {
            DUE.is("piano(" + k + ")", acts[k], x.piano(k));
        }
        DUE.is("piano(8)", -1, x.piano(8));
        DUE.is("piano(-1)", -1, x.piano(-1));
        DUE.is("piano(least)", -1, x.piano(Integer.MIN_VALUE));
        DUE.is("piano(greatest)", -1, x.piano(Integer.MAX_VALUE));
        BedHouse y = Due.told("wall 0;glass 1;curtain 2;rotten 8;down 1;");
        DUE.is("rotten goes up first", 2, y.piano(2));
        DUE.is("and glass elsewhere", 4, y.piano(0));
        DUE.is("none needed", 0, y.piano(3));
    }

    private static void pianoThatCannot() {
        BedHouse x = Due.told("wall 0;beam 0 1;");
        DUE.is("the beam's slot", -9, x.piano(0));
        DUE.is("the beam's slot is the next", -9, x.piano(7));
        DUE.is("beside it", 0, x.piano(1));
        BedHouse y = Due.told("wall 0;wall 4;beam 0 2;down 1;");
        DUE.is("the other wall must bear in 1 first, but then it is not empty", -9, y.piano(0));
        DUE.is("the other wall bears in 1", 3, y.piano(7));
        BedHouse z = Due.told("wall 0;down 0;");
        DUE.is("none may lie", -9, z.piano(0));
        DUE.is("none may lie", 0, z.piano(1));
        DUE.is("none may lie", -9, z.piano(7));
        BedHouse w = Due.told("curtain 3;wall 8;wall 8;beam 1 1;down 1;");
        DUE.is("not lawful, and no act leads on", 0, w.piano(1));
        DUE.is("by a lawful house", 3, w.piano(3));
    }

    private static void best() {
        BedHouse x = Due.told("wall 3;noise 5;");
        DUE.is("a wall against the noise", 4, x.best(-1));
        DUE.is("it stands there", 5, x.best(0));
        DUE.is("best(1)", -1000000, x.best(1));
        DUE.is("best(-2)", -1000000, x.best(-2));
        DUE.is("best(least)", -1000000, x.best(Integer.MIN_VALUE));
        DUE.is("best(greatest)", -1000000, x.best(Integer.MAX_VALUE));
        DUE.is("of equal ones the first slot", 0, Due.told("wall 8;").best(0));
        DUE.is("lying comes last", 1, Due.told("wall 8;glass 8;").best(1));
        BedHouse y = Due.told("wall 3;sun 0 8;");
        DUE.is("lying is best", 24, y.best(-1));
        DUE.is("it lies", 8, y.best(0));
        BedHouse z = Due.told("wall 3;sun 0 8;down 0;");
        DUE.is("it may not lie", 21, z.best(-1));
        DUE.is("it stands in the first", 0, z.best(0));
        BedHouse w = Due.told("rotten 0;beam 0 8;");
        DUE.is("none is lawful", -1000000, w.best(-1));
        DUE.is("none is lawful", -1000000, w.best(0));
        BedHouse v = Due.told("rain 0 8;");
        DUE.is("below 0", -16, v.best(-1));
        BedHouse u = Due.told("wall 8;wall 8;noise 2;");
        DUE.is("panel 0 first", 0, u.best(0));
        DUE.is("so panel 1 is against the noise", 2, u.best(1));
        BedHouse t = Due.told("wall 8;wall 8;beam 1 1;down 1;");
        DUE.is("now need not be lawful", 0, t.best(-1));
        DUE.is("panel 0", 0, t.best(0));
        DUE.is("panel 1 bears", 1, t.best(1));
    }

    private static void nothingIsChanged() {
        BedHouse x = swapped("down 1;rain 5 2;sun 0 8;");
        for (int i = 0; i < 2; i++) {
            ways("twice", x, 0, 6, 8, -9);
            DUE.is("piano", 3, x.piano(0));
            DUE.is("best", 19, x.best(-1));
            DUE.is("place of 0", 1, x.panel(0, 1));
            DUE.is("place of 1", 0, x.panel(1, 1));
            DUE.is("acts", 6, x.now(1));
            DUE.is("day", 0, x.now(0));
            DUE.is("leaks", 0, x.now(2));
            DUE.is("trace", 0, x.trace());
        }
    }

    /** Ways of 20 acts, an act a day: by a search over all texts none takes more nights. */
    private static void twentyNights() {
        int[] panels = {2, 3, 3, 1, 1, 0, 0, 2, 2, 0, 0, 1, 1, 0, 0, 2, 2, 3, 3, 2};
        int[] places = {3, 8, 4, 8, 0, 8, 2, 8, 1, 8, 3, 8, 2, 8, 0, 8, 3, 8, 1, 8};
        BedHouse x = Due.told("wall 1;wall 2;wall 8;glass 0;beam 0 2;beam 1 3;down 1;hands 1;");
        x.keep(0);
        for (int i = 0; i < panels.length; i++) {
            if (i > 0) {
                x.night();
            }
            DUE.is("act " + i, places[i] / 8, places[i] == 8 ? x.down(panels[i]) : x.up(panels[i], places[i]));
            DUE.is("fewest, and no act is left", i + 1, x.fewest(0));
            DUE.is("nights, and no act is left", i + 1, x.nights(0));
        }
        ways("20 acts, none is left today", x, 0, 20, 23, 20);
        x.keep(1);
        x.night();
        ways("20 acts, one today", x, 0, 20, 23, 19);
        x.back(0);
        ways("there again, one today", x, 1, 20, 23, 19);
        x.up(2, 3);
        ways("19 acts, none is left today", x, 1, 19, 38, 19);
    }

    private static void firstAtItsBounds() {
        BedHouse x = Due.told("wall 0;wall 1;wall 2;wall 7;down 4;hands 9;");
        x.keep(0);
        x.down(3);
        ways("panel 3 into slot 7", x, 0, 1, 37, 0);
        x.keep(1);
        x.back(0);
        ways("panel 3 down", x, 1, 1, 38, 0);
        x.down(0);
        x.keep(1);
        ways("panel 0 into slot 0", x, 0, 1, 0, 0);
        x.back(0);
        ways("panel 0 down", x, 1, 1, 8, 0);
        for (int p = 0; p < 4; p++) {
            x.back(0);
            x.down(p);
            ways("panel " + p + " up", x, 0, 1, 10 * p + (p == 3 ? 7 : p), 0);
            x.keep(1);
            x.back(0);
            ways("panel " + p + " down", x, 1, 1, 10 * p + 8, 0);
        }
        // Of two acts that begin a way as short, the first by PANELS.
        x.back(0);
        x.down(3);
        x.down(0);
        ways("0 and 3 lie", x, 0, 2, 0, 0);
        x.keep(1);
        x.back(0);
        ways("0 and 3 to be taken down", x, 1, 2, 8, 0);
    }

    private static void nightsByActsLeft() {
        for (int hands = 1; hands <= 9; hands++) {
            for (int acts = 0; acts <= 8; acts++) {
                for (int today = 0; today <= Math.min(hands, acts); today++) {
                    BedHouse x = goneAway(hands, acts, today);
                    int later = acts - (hands - today);
                    int due = later <= 0 ? 0 : (later + hands - 1) / hands;
                    String what = acts + " acts by " + hands + " a day, " + today + " done";
                    DUE.is("done: " + what, today, x.now(1));
                    DUE.is("fewest: " + what, acts, x.fewest(0));
                    DUE.is("nights: " + what, due, x.nights(0));
                }
            }
        }
    }

    /** So many acts lead back to image 0; so many of the acts that led away are done on this day. */
    private static BedHouse goneAway(int hands, int acts, int today) {
        BedHouse x = Due.told("wall 0;glass 1;curtain 2;rotten 3;down 4;hands " + hands + ";");
        x.keep(0);
        for (int act = 0; act < acts; act++) {
            if (x.now(1) == hands || act == acts - today) {
                x.night();
            }
            DUE.holds("an act", act < 4 ? x.down(act) == act + 1 : x.up(act - 4, act) == 7 - act);
        }
        if (today == 0) {
            x.night();
        }
        return x;
    }

    private static void theLastDayNeedNotBeDry() {
        BedHouse x = Due.told("wall 0;rain 0 1;hands 1;");
        x.down(0);
        x.keep(0);
        x.night();
        x.up(0, 0);
        ways("the image leaks, no act is left", x, 0, 1, 8, 1);
        x.night();
        ways("the image leaks, one act is left", x, 0, 1, 8, 0);
    }

    private static void theFirstNightMustBeDry() {
        BedHouse x = Due.told("wall 0;rain 0 1;hands 1;");
        x.keep(0);
        x.down(0);
        ways("it leaks and no act is left", x, 0, 1, 0, -9);
        x.night();
        ways("it leaks and one act is left", x, 0, 1, 0, 0);
        x.up(0, 5);
        ways("it stands elsewhere, and leaks", x, 0, 2, 8, -9);
        DUE.is("leaks there would be", 1, x.now(5));
    }

    private static void bothImages() {
        BedHouse x = Due.told("wall 0;down 1;hands 9;");
        x.keep(0);
        x.down(0);
        x.keep(1);
        ways("image 0", x, 0, 1, 0, 0);
        ways("image 1", x, 1, 0, -9, 0);
        x.up(0, 6);
        ways("image 0", x, 0, 2, 8, 0);
        ways("image 1", x, 1, 1, 8, 0);
        x.keep(0);
        ways("image 0 anew", x, 0, 0, -9, 0);
        ways("image 1 still", x, 1, 1, 8, 0);
    }

    private static void pianoRoundTheBed() {
        for (int k = 0; k < 8; k++) {
            BedHouse x = Due.told("rotten " + k + ";");
            BedHouse y = Due.told("rotten " + k + ";down 0;");
            BedHouse z = Due.told("wall " + k + ";beam " + k + " 1;");
            for (int at = 0; at < 8; at++) {
                boolean stands = at == k || (at + 1) % 8 == k;
                DUE.is("piano(" + at + "), panel in " + k, stands ? 1 : 0, x.piano(at));
                DUE.is("piano(" + at + "), fixed in " + k, stands ? -9 : 0, y.piano(at));
                DUE.is("piano(" + at + "), wall in " + k, stands ? -9 : 0, z.piano(at));
            }
            BedHouse w = Due.told("rotten " + k + ";glass " + (k + 1) % 8 + ";");
            DUE.is("two panels", 2, w.piano(k));
            BedHouse v = Due.told("rotten " + k + ";glass " + (k + 1) % 8 + ";down 1;");
            DUE.is("two panels, one may lie", 3, v.piano(k));
        }
    }

    private static void bestAtItsBounds() {
        BedHouse x = Due.told("wall 7;wall 6;wall 5;wall 4;");
        int[] first = {0, 1, 2, 3};
        for (int p = 0; p < 4; p++) {
            DUE.is("of equal ones the first by panel " + p, first[p], x.best(p));
        }
        DUE.is("worth", 0, x.best(-1));
        DUE.is("no panel 4", -1000000, x.best(4));
        BedHouse y = Due.told("wall 0;wall 1;wall 2;wall 3;sun 0 8;down 4;");
        for (int p = 0; p < 4; p++) {
            DUE.is("all lie: panel " + p, 8, y.best(p));
        }
        DUE.is("all lie: worth", 24, y.best(-1));
        BedHouse z = Due.told("wall 0;wall 1;wall 2;wall 3;sun 0 8;");
        for (int p = 0; p < 4; p++) {
            DUE.is("one must stand: panel " + p, p == 0 ? 0 : 8, z.best(p));
        }
        BedHouse w = Due.told("wall 0;noise 7;view 7;rain 7 1;sun 0 8;");
        DUE.is("a wall that keeps noise and rain out is worth as much as none", 27, w.best(-1));
        DUE.is("it lies", 8, w.best(0));
        BedHouse v = Due.told("glass 0;noise 7;view 7;rain 7 1;sun 0 8;");
        DUE.is("glass is worth all", 31, v.best(-1));
        DUE.is("glass stands", 7, v.best(0));
        BedHouse u = Due.told("rain 0 8;wall 8;wall 8;wall 8;wall 8;");
        DUE.is("the greatest may be below 0", -8, u.best(-1));
        DUE.is("the last of them", 3, u.best(3));
    }

    private static void noPanels() {
        BedHouse x = Due.told("sun 0 8;view 1;noise 1;rain 0 1;hands 9;");
        DUE.is("worth", 27, x.best(-1));
        DUE.is("best(0)", -1000000, x.best(0));
        x.keep(0);
        x.night();
        ways("no panels", x, 0, 0, -9, 0);
        BedHouse y = Due.told("beam 0 8;");
        y.keep(1);
        ways("no panels and a beam", y, 1, 0, -9, 0);
        DUE.is("no lawful house", -1000000, y.best(-1));
        DUE.is("the slots are empty all the same", 0, y.piano(7));
    }

    private static void nowNotLawfulAndNoWay() {
        BedHouse x = Due.told("wall 8;wall 8;wall 8;wall 8;down 0;hands 9;rain 3 1;");
        x.keep(0);
        ways("it is that", x, 0, 0, -9, 0);
        DUE.is("piano", 0, x.piano(0));
        DUE.is("lawful ones there are", 1680, x.fit());
        BedHouse y = Due.told("wall 0;wall 1;down 4;beam 3 1;hands 9;");
        y.keep(0);
        DUE.is("no lawful house is next to it", -9, y.piano(0));
        DUE.is("here the slots are empty", 0, y.piano(2));
        DUE.is("lawful ones there are", 2 * 8, y.fit());
    }
}
