/** Promises 19 to 22: the CLUES of a LETTER, FIT and SURE. */
public final class LetterTest {
    private static final Due DUE = new Due("LetterTest");

    public static void main(String[] args) {
        clues();
        oneCurtain();
        glassIsAsGoodAsNothing();
        itLies();
        noneFits();
        allLawful();
        nowIsNotAsked();
        sureOfTwo();
        eachHour();
        sureOfEachPlace();
        cluesAtTheirBound();
        fullChangesNothing();
        DUE.close();
    }

    private static void clues() {
        BedHouse x = new BedHouse();
        DUE.is("clue(8, 0)", -1, x.clue(8, 0));
        DUE.is("clue(-1, 0)", -1, x.clue(-1, 0));
        DUE.is("clue(0, 2)", -1, x.clue(0, 2));
        DUE.is("clue(0, -1)", -1, x.clue(0, -1));
        DUE.is("clue(least, 0)", -1, x.clue(Integer.MIN_VALUE, 0));
        DUE.is("clue(0, greatest)", -1, x.clue(0, Integer.MAX_VALUE));
        for (int i = 1; i <= 8; i++) {
            DUE.is("clue " + i, i, x.clue(i % 3, 0));
            DUE.is("count(3)", i, x.count(3));
        }
        DUE.is("a ninth", -3, x.clue(0, 0));
        DUE.is("BAD ahead of FULL", -1, x.clue(8, 0));
        DUE.is("BAD ahead of FULL", -1, x.clue(0, 2));
        DUE.is("count(3)", 8, x.count(3));
        DUE.is("forget", 8, x.forget());
        DUE.is("forget again", 0, x.forget());
        DUE.is("count(3)", 0, x.count(3));
        DUE.is("clue", 1, x.clue(7, 1));
        DUE.is("fit: no sun", 0, x.fit());
    }

    private static void oneCurtain() {
        BedHouse x = Due.told("curtain 0;sun 0 8;");
        DUE.is("all fit", 9, x.fit());
        DUE.is("none is sure", -9, x.sure(0));
        x.clue(3, 1);
        DUE.is("not in 3", 8, x.fit());
        x.clue(3, 1);
        DUE.is("not in 3, told again", 8, x.fit());
        x.clue(5, 0);
        DUE.is("in 5", 1, x.fit());
        DUE.is("sure", 5, x.sure(0));
        DUE.is("sure(1)", -1, x.sure(1));
        DUE.is("sure(-1)", -1, x.sure(-1));
        DUE.is("sure(least)", -1, x.sure(Integer.MIN_VALUE));
        DUE.is("sure(greatest)", -1, x.sure(Integer.MAX_VALUE));
        DUE.is("forget", 3, x.forget());
        DUE.is("all fit", 9, x.fit());
    }

    private static void glassIsAsGoodAsNothing() {
        BedHouse x = Due.told("glass 0;rotten 1;sun 0 4;down 4;");
        x.clue(2, 0);
        // The rotten one stands in 2; the glass one in one of seven, or it lies.
        DUE.is("fit", 8, x.fit());
        DUE.is("sure(0)", -9, x.sure(0));
        DUE.is("sure(1)", 2, x.sure(1));
        x.clue(3, 0);
        DUE.is("two can't be", 0, x.fit());
    }

    private static void itLies() {
        BedHouse x = Due.told("wall 0;sun 0 8;");
        for (int hour = 0; hour < 8; hour++) {
            DUE.is("fit", 9 - hour, x.fit());
            x.clue(hour, 1);
        }
        DUE.is("fit", 1, x.fit());
        DUE.is("sure", 8, x.sure(0));
    }

    private static void noneFits() {
        BedHouse x = Due.told("wall 0;sun 0 7;");
        x.clue(2, 0);
        DUE.is("sure", 2, x.sure(0));
        x.clue(2, 1);
        DUE.is("both can't be: fit", 0, x.fit());
        DUE.is("both can't be: sure", -9, x.sure(0));
        x.forget();
        x.clue(7, 0);
        DUE.is("where no sun shines: fit", 9, x.fit());
        x.clue(7, 1);
        DUE.is("where no sun shines: fit", 0, x.fit());
    }

    private static void allLawful() {
        DUE.is("four panels, three may lie", 3392, Due.told("wall 8;wall 8;wall 8;wall 8;").fit());
        DUE.is("four may lie", 3393, Due.told("wall 8;wall 8;wall 8;wall 8;down 4;").fit());
        DUE.is("none may lie", 1680, Due.told("wall 8;wall 8;wall 8;wall 8;down 0;").fit());
        DUE.is("one may lie", 3024, Due.told("wall 8;wall 8;wall 8;wall 8;down 1;").fit());
        DUE.is("three panels", 336 + 168 + 24 + 1, Due.told("wall 8;wall 8;wall 8;").fit());
        DUE.is("a beam of one slot", 1, Due.told("wall 8;beam 6 1;").fit());
        DUE.is("a beam of three slots", 3, Due.told("wall 8;beam 6 3;").fit());
        DUE.is("two beams, one wall", 1, Due.told("wall 8;beam 6 3;beam 0 2;").fit());
        DUE.is("two beams apart, two walls", 8, Due.told("wall 8;wall 8;beam 0 2;beam 4 2;").fit());
        DUE.is("glass bears none", 0, Due.told("glass 8;beam 0 8;").fit());
    }

    private static void sureOfTwo() {
        BedHouse x = Due.told("wall 8;beam 0 2;down 0;");
        DUE.is("fit", 2, x.fit());
        DUE.is("in 0 or in 1", -9, x.sure(0));
        BedHouse y = Due.told("wall 8;beam 0 1;");
        DUE.is("in 0", 0, y.sure(0));
    }

    private static void nowIsNotAsked() {
        BedHouse x = Due.told("wall 8;curtain 8;curtain 8;beam 0 1;down 0;sun 0 8;");
        DUE.is("not lawful now", 0, x.now(4));
        DUE.is("fit", 42, x.fit());
        DUE.is("sure", 0, x.sure(0));
        DUE.is("sure", -9, x.sure(1));
    }

    private static void eachHour() {
        for (int hour = 0; hour < 8; hour++) {
            BedHouse x = Due.told("curtain 0;sun 0 8;");
            DUE.is("clue(" + hour + ", 1)", 1, x.clue(hour, 1));
            DUE.is("lit at " + hour, 8, x.fit());
            DUE.is("forget", 1, x.forget());
            DUE.is("clue(" + hour + ", 0)", 1, x.clue(hour, 0));
            DUE.is("dark at " + hour, 1, x.fit());
            DUE.is("sure", hour, x.sure(0));
            DUE.is("clue of another hour", 2, x.clue((hour + 1) % 8, 0));
            DUE.is("dark at both", 0, x.fit());
            DUE.is("none fits", -9, x.sure(0));
        }
    }

    private static void sureOfEachPlace() {
        for (int k = 0; k < 8; k++) {
            BedHouse x = Due.told("glass 8;wall 8;glass 8;wall 8;beam " + k + " 1;sun 0 8;");
            x.clue((k + 3) % 8, 0);
            // The one wall bears in k, the other one is where it was dark.
            DUE.is("which wall is which", -9, x.sure(1));
            BedHouse y = Due.told("glass 8;curtain 8;wall 8;rotten 8;beam " + k + " 1;sun 0 8;");
            DUE.is("panel 2 bears", k, y.sure(2));
            DUE.is("panel 0 is anywhere", -9, y.sure(0));
            for (int hour = 0; hour < 8; hour++) {
                if (hour != k) {
                    y.clue(hour, 1);
                }
            }
            DUE.is("panel 1 lies", 8, y.sure(1));
            DUE.is("panel 2 bears", k, y.sure(2));
            DUE.is("panel 3 lies", 8, y.sure(3));
            DUE.is("glass is anywhere", -9, y.sure(0));
            DUE.is("sure(4)", -1, y.sure(4));
            DUE.is("fit", 8, y.fit());
        }
    }

    private static void cluesAtTheirBound() {
        BedHouse x = Due.told("wall 0;sun 0 8;");
        for (int round = 0; round < 3; round++) {
            for (int i = 1; i <= 8; i++) {
                DUE.is("clue " + i, i, x.clue(8 - i, 1));
            }
            DUE.is("a ninth of a told hour", -3, x.clue(0, 1));
            DUE.is("a ninth that says the other", -3, x.clue(0, 0));
            DUE.is("it lies", 8, x.sure(0));
            DUE.is("forget all", 8, x.forget());
            DUE.is("all fit", 9, x.fit());
        }
        for (int i = 1; i <= 8; i++) {
            DUE.is("the same hour " + i, i, x.clue(4, 0));
        }
        DUE.is("it stood there", 4, x.sure(0));
    }

    private static void fullChangesNothing() {
        BedHouse x = Due.told("wall 0;sun 0 8;");
        for (int i = 0; i < 8; i++) {
            x.clue(2, 0);
        }
        DUE.is("full", -3, x.clue(2, 1));
        DUE.is("fit", 1, x.fit());
        DUE.is("count", 8, x.count(3));
        DUE.is("bad", -1, x.clue(2, 2));
        DUE.is("fit", 1, x.fit());
        x.forget();
        DUE.is("bad", -1, x.clue(8, 1));
        DUE.is("no clues", 0, x.count(3));
        DUE.is("fit", 9, x.fit());
    }
}
