/** Promises 9 to 13: acts, nights, NOW and what is LIT. */
public final class ActsTest {
    private static final Due DUE = new Due("ActsTest");

    public static void main(String[] args) {
        takingDown();
        puttingUp();
        fromAHouseThatIsNotLawful();
        handsOfADay();
        nights();
        lastDay();
        leaks();
        worth();
        lit();
        asManyAsMayLie();
        lawfulAtItsBounds();
        upIntoEachSlot();
        refusedActsAreNotCounted();
        actsOfADayAndTheNext();
        leaksOfAllSlots();
        worthAtItsBounds();
        nowRefused();
        DUE.close();
    }

    private static void takingDown() {
        BedHouse x = Due.told("wall 0;glass 2;curtain 8;beam 0 1;down 2;hands 9;");
        DUE.is("down a wall that bears", -2, x.down(0));
        DUE.is("down one that lies", -2, x.down(2));
        DUE.is("acts behind STATE", 0, x.now(1));
        DUE.is("place behind STATE", 0, x.panel(0, 1));
        DUE.is("down(1)", 2, x.down(1));
        DUE.is("place of 1", 8, x.panel(1, 1));
        DUE.is("slot 2", -9, x.slot(2, 0));
        DUE.is("lying", 2, x.count(2));
        DUE.is("acts", 1, x.now(1));
        DUE.is("down(3)", -1, x.down(3));
        DUE.is("down(-1)", -1, x.down(-1));
        DUE.is("down(least)", -1, x.down(Integer.MIN_VALUE));
        DUE.is("down(greatest)", -1, x.down(Integer.MAX_VALUE));
        BedHouse y = Due.told("glass 0;glass 1;down 1;");
        DUE.is("one lies", 1, y.down(1));
        DUE.is("no second may", -2, y.down(0));
        BedHouse z = Due.told("glass 0;glass 1;down 0;");
        DUE.is("none may lie", -2, z.down(0));
        BedHouse w = Due.told("wall 0;rotten 1;curtain 2;glass 3;down 4;hands 4;");
        for (int p = 0; p < 4; p++) {
            DUE.is("all four down " + p, p + 1, w.down(p));
        }
        BedHouse v = Due.told("wall 0;wall 1;beam 0 2;");
        DUE.is("the other wall bears", 1, v.down(0));
        DUE.is("this one alone", -2, v.down(1));
    }

    private static void puttingUp() {
        BedHouse x = Due.told("wall 8;glass 2;curtain 8;hands 9;");
        DUE.is("up where one stands", -2, x.up(0, 2));
        DUE.is("up one that stands", -2, x.up(1, 3));
        DUE.is("up one into its own slot", -2, x.up(1, 2));
        DUE.is("acts behind STATE", 0, x.now(1));
        DUE.is("up(0, 7)", 1, x.up(0, 7));
        DUE.is("slot 7", 0, x.slot(7, 0));
        DUE.is("up(2, 0)", 0, x.up(2, 0));
        DUE.is("acts", 2, x.now(1));
        DUE.is("up(0, 8)", -1, x.up(0, 8));
        DUE.is("up(0, -1)", -1, x.up(0, -1));
        DUE.is("up(3, 0)", -1, x.up(3, 0));
        DUE.is("up(-1, 0)", -1, x.up(-1, 0));
        DUE.is("up(greatest, least)", -1, x.up(Integer.MAX_VALUE, Integer.MIN_VALUE));
    }

    private static void fromAHouseThatIsNotLawful() {
        BedHouse x = Due.told("wall 8;glass 8;wall 4;beam 3 1;down 1;hands 9;");
        DUE.is("not lawful", 0, x.now(4));
        DUE.is("still a beam that is not borne", -2, x.up(1, 3));
        DUE.is("wrong slot", -2, x.up(0, 2));
        DUE.is("more would lie", -2, x.down(2));
        DUE.is("lawful by one act", 1, x.up(0, 3));
        DUE.is("lawful", 1, x.now(4));
        BedHouse y = Due.told("wall 8;wall 8;wall 8;beam 3 1;down 1;hands 9;");
        DUE.is("two lie still", -2, y.up(0, 3));
        BedHouse z = Due.told("rotten 3;down 0;beam 3 1;");
        DUE.is("rotten bears none", 0, z.now(4));
        DUE.is("nights may come", 0, z.night());
    }

    private static void handsOfADay() {
        BedHouse x = Due.told("wall 0;hands 1;");
        DUE.is("first act", 1, x.down(0));
        DUE.is("second act", -2, x.up(0, 0));
        DUE.is("BAD ahead of STATE", -1, x.up(0, 8));
        DUE.is("BAD ahead of STATE", -1, x.down(1));
        DUE.is("night", 0, x.night());
        DUE.is("acts of the next day", 0, x.now(1));
        DUE.is("act of the next day", 0, x.up(0, 0));
        DUE.is("no more", -2, x.down(0));
        BedHouse y = Due.told("wall 0;");
        DUE.is("1 of 2", 1, y.down(0));
        DUE.is("2 of 2", 0, y.up(0, 1));
        DUE.is("3 of 2", -2, y.down(0));
        BedHouse z = Due.told("wall 0;hands 9;");
        for (int i = 1; i <= 9; i++) {
            DUE.is(i + " of 9", i % 2, i % 2 == 1 ? z.down(0) : z.up(0, i % 8));
        }
        DUE.is("10 of 9", -2, z.up(0, 0));
        DUE.is("acts", 9, z.now(1));
    }

    private static void nights() {
        BedHouse x = Due.told("wall 0;glass 1;curtain 2;rotten 3;rain 0 5;down 4;");
        DUE.is("leaks there would be", 3, x.now(5));
        DUE.is("leaks so far", 0, x.now(2));
        DUE.is("night", 3, x.night());
        DUE.is("day", 1, x.now(0));
        DUE.is("leaks in all", 3, x.now(2));
        x.down(0);
        DUE.is("leaks with wall 0 down", 4, x.now(5));
        DUE.is("night", 4, x.night());
        DUE.is("day", 2, x.now(0));
        DUE.is("leaks in all", 7, x.now(2));
        DUE.is("leaks are counted by nights", 4, x.now(5));
        DUE.is("now(6)", -1000000, x.now(6));
        DUE.is("now(-1)", -1000000, x.now(-1));
    }

    /** It takes more calls than are promised, so it shows only that the class keeps the day's bound too. */
    private static void lastDay() {
        BedHouse x = Due.told("rain 0 1;wall 0;wall 2;hands 1;");
        x.keep(0);
        for (int day = 0; day < 998; day++) {
            DUE.is("night of day " + day, 0, x.night());
        }
        x.down(1);
        DUE.is("nights by day 999", 1, x.nights(0));
        DUE.is("night of day 998", 0, x.night());
        DUE.is("nights on day 999, one act left", 0, x.nights(0));
        x.up(1, 4);
        DUE.is("nights on day 999, no act left", -9, x.nights(0));
        DUE.is("night of day 999", -2, x.night());
        DUE.is("night of day 999 again", -2, x.night());
        DUE.is("day", 999, x.now(0));
        DUE.is("acts", 1, x.now(1));
        DUE.is("no act is left", -2, x.down(1));
        DUE.is("keep", 999, x.keep(1));
        DUE.is("back", 0, x.back(0));
        DUE.is("a night of day 0 may be", 0, x.night());
        DUE.is("back to day 999", 999, x.back(1));
        DUE.is("leaks", 0, x.now(2));
    }

    private static void leaks() {
        String[] texts = {"wall 7;", "glass 7;", "curtain 7;", "rotten 7;", "wall 8;", "wall 6;"};
        int[] leaks = {1, 1, 2, 2, 2, 2};
        for (int i = 0; i < texts.length; i++) {
            BedHouse x = Due.told(texts[i] + "rain 7 2;");
            DUE.is("leaks of " + texts[i], leaks[i], x.now(5));
            DUE.is("night of " + texts[i], leaks[i], x.night());
        }
    }

    private static void worthOf(int worth, String text) {
        DUE.is("worth of " + text, worth, Due.told(text).now(3));
    }

    private static void worth() {
        worthOf(0, "wall 0;");
        worthOf(24, "sun 0 8;");
        worthOf(-16, "rain 0 8;");
        worthOf(3, "sun 2 1;");
        worthOf(0, "wall 2;sun 2 1;");
        worthOf(3, "glass 2;sun 2 1;");
        worthOf(0, "curtain 2;sun 2 1;");
        worthOf(0, "rotten 2;sun 2 1;");
        worthOf(5, "view 6;");
        worthOf(0, "wall 6;view 6;");
        worthOf(5, "glass 6;view 6;");
        worthOf(0, "curtain 6;view 6;");
        worthOf(0, "rotten 6;view 6;");
        worthOf(5, "wall 8;view 6;");
        worthOf(0, "noise 6;");
        worthOf(4, "wall 6;noise 6;");
        worthOf(2, "glass 6;noise 6;");
        worthOf(2, "curtain 6;noise 6;");
        worthOf(2, "rotten 6;noise 6;");
        worthOf(0, "wall 5;noise 6;");
        worthOf(0, "wall 6;rain 6 1;");
        worthOf(-2, "rotten 6;rain 6 1;");
        worthOf(15 + 5 + 4 - 12,
            "wall 0;glass 1;curtain 2;rotten 3;sun 0 8;rain 0 8;view 1;noise 0;");
        BedHouse x = Due.told("rain 0 3;");
        x.night();
        DUE.is("worth is of the house, not of the leaks so far", -6, x.now(3));
    }

    private static void lit() {
        BedHouse x = Due.told("wall 0;glass 1;curtain 2;rotten 3;sun 0 5;down 4;");
        String lit = "01001000";
        for (int hour = 0; hour < 8; hour++) {
            DUE.is("lit(" + hour + ")", lit.charAt(hour) - '0', x.lit(hour));
        }
        x.down(2);
        DUE.is("lit(2) with no panel", 1, x.lit(2));
        DUE.is("lit(8)", -1, x.lit(8));
        DUE.is("lit(-1)", -1, x.lit(-1));
        DUE.is("lit(least)", -1, x.lit(Integer.MIN_VALUE));
        DUE.is("lit(greatest)", -1, x.lit(Integer.MAX_VALUE));
        BedHouse y = Due.told("sun 7 2;glass 5;");
        DUE.is("lit(7)", 1, y.lit(7));
        DUE.is("lit(0)", 1, y.lit(0));
        DUE.is("glass without sun", 0, y.lit(5));
    }

    private static void asManyAsMayLie() {
        for (int most = 0; most <= 4; most++) {
            BedHouse x = Due.told("wall 0;glass 1;curtain 2;rotten 3;hands 9;down " + most + ";");
            for (int p = 0; p < 4; p++) {
                DUE.is("down(" + p + "), " + most + " may lie", p < most ? p + 1 : -2, x.down(p));
            }
            DUE.is("lying", most, x.count(2));
            DUE.is("acts", most, x.now(1));
            DUE.is("lawful", 1, x.now(4));
        }
        BedHouse x = Due.told("wall 0;glass 1;curtain 2;rotten 3;hands 9;");
        for (int p = 0; p < 4; p++) {
            DUE.is("down(" + p + "), no DOWN told", p < 3 ? p + 1 : -2, x.down(p));
        }
        DUE.is("up again", 2, x.up(1, 1));
        DUE.is("now the last may lie", 3, x.down(3));
    }

    private static void lawfulAtItsBounds() {
        for (int lie = 0; lie <= 4; lie++) {
            for (int most = 0; most <= 4; most++) {
                BedHouse x = Due.told("wall 8;".repeat(lie) + "down " + most + ";");
                DUE.is(lie + " lie, " + most + " may", lie <= most ? 1 : 0, x.now(4));
            }
            DUE.is(lie + " lie", lie <= 3 ? 1 : 0, Due.told("wall 8;".repeat(lie)).now(4));
        }
        DUE.is("one beam of two is borne", 0, Due.told("wall 0;beam 0 1;beam 1 1;").now(4));
        DUE.is("the other one is", 0, Due.told("wall 1;beam 0 1;beam 1 1;").now(4));
        DUE.is("both are", 1, Due.told("wall 1;beam 0 2;beam 1 1;").now(4));
        DUE.is("a beam without panels", 0, Due.told("beam 0 8;").now(4));
        DUE.is("borne, but too many lie", 0, Due.told("wall 1;wall 8;beam 1 1;down 0;").now(4));
    }

    private static void upIntoEachSlot() {
        for (int k = 0; k < 8; k++) {
            BedHouse x = Due.told("curtain 8;hands 9;");
            DUE.is("up(0, " + k + ")", 0, x.up(0, k));
            DUE.is("place", k, x.panel(0, 1));
            DUE.is("slot", 0, x.slot(k, 0));
            DUE.is("down(0)", 1, x.down(0));
            DUE.is("slot", -9, x.slot(k, 0));
            DUE.is("the same slot again", 0, x.up(0, k));
            DUE.is("acts", 3, x.now(1));
        }
    }

    private static void refusedActsAreNotCounted() {
        BedHouse x = Due.told("wall 0;glass 1;hands 1;beam 0 1;");
        for (int i = 0; i < 5; i++) {
            DUE.is("a wall that bears", -2, x.down(0));
            DUE.is("it stands", -2, x.up(0, 3));
            DUE.is("no such slot", -1, x.up(0, 8));
            DUE.is("acts", 0, x.now(1));
        }
        DUE.is("the one act", 1, x.down(1));
        DUE.is("it is done", -2, x.up(1, 1));
        DUE.is("acts", 1, x.now(1));
    }

    private static void actsOfADayAndTheNext() {
        for (int hands = 1; hands <= 9; hands++) {
            BedHouse x = Due.told("wall 0;hands " + hands + ";");
            for (int day = 0; day < 3; day++) {
                for (int act = 1; act <= hands + 1; act++) {
                    boolean stands = x.panel(0, 1) < 8;
                    int due = act > hands ? -2 : stands ? 1 : 0;
                    DUE.is("act " + act + " of " + hands, due, stands ? x.down(0) : x.up(0, act % 8));
                    DUE.is("acts", Math.min(act, hands), x.now(1));
                }
                DUE.is("day", day, x.now(0));
                DUE.is("night", 0, x.night());
            }
            x.night();
            DUE.is("a day without acts is a day too", 4, x.now(0));
            DUE.is("acts left are not kept for later", 0, x.now(1));
        }
    }

    private static void leaksOfAllSlots() {
        String[] texts = {"", "glass 7;", "glass 7;wall 0;", "glass 7;wall 0;wall 3;", "glass 7;wall 0;wall 3;glass 4;"};
        for (int shelters = 0; shelters <= 4; shelters++) {
            BedHouse x = Due.told(texts[shelters] + "rain 3 8;");
            int leaks = 0;
            for (int night = 1; night <= 12; night++) {
                DUE.is("leaks there would be", 8 - shelters, x.now(5));
                DUE.is("night", 8 - shelters, x.night());
                leaks += 8 - shelters;
                DUE.is("leaks in all", leaks, x.now(2));
                DUE.is("day", night, x.now(0));
            }
        }
        BedHouse dry = Due.told("wall 7;glass 0;rain 7 2;");
        DUE.is("none", 0, dry.night());
        DUE.is("none in all", 0, dry.now(2));
    }

    private static void worthAtItsBounds() {
        worthOf(8 * 3 + 5 + 2, "sun 0 8;view 0;noise 1;glass 1;");
        worthOf(8 * 3 + 5 + 2, "sun 0 8;view 1;noise 1;glass 1;");
        worthOf(7 * 3 + 5 + 4, "sun 0 8;view 0;noise 7;wall 7;");
        worthOf(7 * 3 + 4, "sun 0 8;view 7;noise 7;wall 7;");
        worthOf(7 * 3 + 2, "sun 0 8;view 7;noise 7;curtain 7;");
        worthOf(-16, "rain 0 8;noise 0;wall 8;curtain 3;rotten 4;");
        worthOf(-16 + 2, "rain 0 8;noise 0;rotten 0;");
        worthOf(-14 + 2, "rain 0 8;noise 0;glass 0;");
        worthOf(0, "");
        for (int k = 0; k < 8; k++) {
            worthOf(5, "view " + k + ";wall " + (k + 1) % 8 + ";");
            worthOf(0, "view " + k + ";wall " + k + ";");
            worthOf(4, "noise " + k + ";wall " + k + ";");
            worthOf(0, "noise " + k + ";wall " + (k + 7) % 8 + ";");
            worthOf(3, "sun " + k + " 1;rotten " + (k + 7) % 8 + ";");
            worthOf(0, "sun " + k + " 1;rotten " + k + ";");
            worthOf(-2, "rain " + k + " 1;glass " + (k + 1) % 8 + ";");
            worthOf(0, "rain " + k + " 1;glass " + k + ";");
        }
    }

    private static void nowRefused() {
        BedHouse x = Due.told("wall 0;");
        int[] none = {-1, 6, 7, Integer.MIN_VALUE, Integer.MAX_VALUE};
        for (int what : none) {
            DUE.is("now(" + what + ")", -1000000, x.now(what));
        }
    }
}
