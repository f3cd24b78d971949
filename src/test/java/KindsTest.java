/** Promises 23 to 27: KINDS and THE TRACE, IMAGES, and what is counted. */
public final class KindsTest {
    private static final Due DUE = new Due("KindsTest");

    public static void main(String[] args) {
        marks();
        marksRefused();
        traceIsOfAllCallsEver();
        images();
        imagesKeepCluesAndActs();
        imagesRefused();
        counts();
        marksAtTheirBounds();
        traceOfEachKind();
        imagesReadAnew();
        imagesKeptAgain();
        countsAtTheirBounds();
        DUE.close();
    }

    private static void marks() {
        BedHouse x = Due.told("wall 5;curtain 8;rotten 7;glass 8;");
        x.night();
        x.night();
        x.night();
        // Of panel 2: slot 7, sort 3, day 3, two panels lie.
        int[] marks = {7, 14, 10, 17, 12, 5};
        int[] traces = {1, 11, 101, 1011, 10101, 100001};
        long trace = 0;
        for (int kind = 0; kind < 6; kind++) {
            DUE.is("mark(" + kind + ", 2)", marks[kind], x.mark(kind, 2));
            trace += traces[kind];
            DUE.is("trace behind mark(" + kind + ", 2)", trace, x.trace());
        }
        int[] ofOne = {8, 16, 10, 19, 12, 7};
        for (int kind = 0; kind < 6; kind++) {
            DUE.is("mark(" + kind + ", 1)", ofOne[kind], x.mark(kind, 1));
        }
        BedHouse y = Due.told("wall 8;wall 8;wall 8;wall 0;");
        DUE.is("below 0", -3, y.mark(5, 3));
        DUE.is("0 times 2", 0, y.mark(1, 3));
        DUE.is("three lie", 3, y.mark(4, 3));
    }

    private static void marksRefused() {
        BedHouse x = Due.told("wall 5;");
        int[] kinds = {6, -1, Integer.MIN_VALUE, Integer.MAX_VALUE, 0, 1, 2, 3, 4, 5, 0, 0};
        int[] panels = {0, 0, 0, 0, 1, -1, 1, 1, 1, 1, Integer.MIN_VALUE, Integer.MAX_VALUE};
        for (int i = 0; i < kinds.length; i++) {
            DUE.is("mark(" + kinds[i] + ", " + panels[i] + ")", -1000000, x.mark(kinds[i], panels[i]));
        }
        DUE.is("trace", 0, x.trace());
    }

    private static void traceIsOfAllCallsEver() {
        BedHouse x = Due.told("wall 5;");
        x.keep(0);
        x.mark(3, 0);
        x.back(0);
        DUE.is("an image keeps no trace", 1011, x.trace());
        Due.tell(x, "glass 5;");
        DUE.is("nor does a text", 1011, x.trace());
        for (int i = 0; i < 200; i++) {
            x.mark(5, 0);
        }
        DUE.is("trace", 1011 + 200L * 100001, x.trace());
    }

    private static void images() {
        BedHouse x = Due.told("wall 5;glass 1;rain 1 2;");
        DUE.is("keep(0)", 0, x.keep(0));
        x.down(1);
        DUE.is("night", 2, x.night());
        x.down(0);
        DUE.is("keep(1)", 1, x.keep(1));
        DUE.is("back(0)", 0, x.back(0));
        DUE.is("place of 1", 1, x.panel(1, 1));
        DUE.is("day", 0, x.now(0));
        DUE.is("acts", 0, x.now(1));
        DUE.is("leaks", 0, x.now(2));
        x.down(0);
        DUE.is("back(1)", 1, x.back(1));
        DUE.is("place of 0", 8, x.panel(0, 1));
        DUE.is("place of 1", 8, x.panel(1, 1));
        DUE.is("day", 1, x.now(0));
        DUE.is("acts", 1, x.now(1));
        DUE.is("leaks", 2, x.now(2));
        DUE.is("back(0) again", 0, x.back(0));
        DUE.is("place of 0", 5, x.panel(0, 1));
        x.night();
        DUE.is("keep(0) anew", 1, x.keep(0));
        x.down(1);
        DUE.is("back(0) anew", 1, x.back(0));
        DUE.is("leaks anew", 1, x.now(2));
        DUE.is("place of 1 anew", 1, x.panel(1, 1));
    }

    private static void imagesKeepCluesAndActs() {
        BedHouse x = Due.told("curtain 5;sun 0 8;hands 1;");
        x.clue(2, 0);
        x.down(0);
        x.keep(0);
        x.forget();
        x.clue(3, 1);
        x.clue(4, 1);
        x.night();
        x.keep(1);
        Due.write(x, "wall");
        DUE.is("back(0)", 0, x.back(0));
        DUE.is("clues of image 0", 1, x.count(3));
        DUE.is("fit of image 0", 1, x.fit());
        DUE.is("sure of image 0", 2, x.sure(0));
        DUE.is("all acts are done in image 0", -2, x.up(0, 0));
        DUE.is("back(1)", 1, x.back(1));
        DUE.is("clues of image 1", 2, x.count(3));
        DUE.is("fit of image 1", 7, x.fit());
        DUE.is("an act in image 1", 0, x.up(0, 0));
        DUE.is("an image has no text", 4, x.count(4));
        x.clue(6, 1);
        DUE.is("back(1), two clues as kept", 1, x.back(1));
        DUE.is("fit of image 1 again", 7, x.fit());
        x.forget();
        DUE.is("back(1), clues come again", 1, x.back(1));
        DUE.is("fit of image 1 once more", 7, x.fit());
        DUE.is("what is done behind keep is not kept", 1, x.back(1));
        DUE.is("place", 8, x.panel(0, 1));
    }

    private static void imagesRefused() {
        BedHouse x = Due.told("wall 5;");
        DUE.is("back(0)", -2, x.back(0));
        DUE.is("back(1)", -2, x.back(1));
        int[] none = {2, -1, Integer.MIN_VALUE, Integer.MAX_VALUE};
        for (int image : none) {
            DUE.is("keep(" + image + ")", -1, x.keep(image));
            DUE.is("back(" + image + ")", -1, x.back(image));
        }
        x.keep(1);
        DUE.is("back(0), not kept", -2, x.back(0));
        DUE.is("back(1), kept", 0, x.back(1));
    }

    private static void counts() {
        BedHouse x = Due.told("wall 5;glass 8;rotten 8;beam 1 1;beam 5 1;");
        x.clue(0, 0);
        Due.write(x, "sun");
        int[] counts = {3, 2, 2, 1, 3};
        for (int what = 0; what < 5; what++) {
            DUE.is("count(" + what + ")", counts[what], x.count(what));
        }
        DUE.is("count(5)", -1, x.count(5));
        DUE.is("count(-1)", -1, x.count(-1));
        DUE.is("count(least)", -1, x.count(Integer.MIN_VALUE));
        DUE.is("count(greatest)", -1, x.count(Integer.MAX_VALUE));
    }

    private static void marksAtTheirBounds() {
        String[] sorts = {"wall", "glass", "curtain", "rotten"};
        for (int sort = 0; sort < 4; sort++) {
            for (int place = 0; place <= 8; place++) {
                for (int p = 0; p < 4; p++) {
                    String lying = "wall 8;wall 8;wall 8;";
                    BedHouse x = Due.told(lying.substring(0, 7 * p) + sorts[sort] + " " + place + ";");
                    int lie = p + (place == 8 ? 1 : 0);
                    String of = " of a " + sorts[sort] + " in " + place;
                    DUE.is("mark(0)" + of, place, x.mark(0, p));
                    DUE.is("mark(1)" + of, place * 2, x.mark(1, p));
                    DUE.is("mark(2)" + of, place + sort, x.mark(2, p));
                    DUE.is("mark(3)" + of, place * 2, x.mark(3, p));
                    DUE.is("mark(4)" + of, place + sort + lie, x.mark(4, p));
                    DUE.is("mark(5)" + of, place - p, x.mark(5, p));
                    x.night();
                    DUE.is("mark(3) a day later" + of, place * 2 + 1, x.mark(3, p));
                    DUE.is("mark(0, " + (p + 1) + ")", -1000000, x.mark(0, p + 1));
                }
            }
        }
    }

    private static void traceOfEachKind() {
        int[] traces = {1, 11, 101, 1011, 10101, 100001};
        for (int kind = 0; kind < 6; kind++) {
            BedHouse x = Due.told("wall 8;");
            DUE.is("trace at first", 0, x.trace());
            for (int i = 1; i <= 20; i++) {
                x.mark(kind, 0);
                DUE.is("trace of " + i + " marks", (long) i * traces[kind], x.trace());
            }
            x.mark(6, 0);
            x.mark(-1, 0);
            x.mark(kind, 1);
            DUE.is("trace behind BAD", 20L * traces[kind], x.trace());
            x.trace();
            x.clear();
            x.house();
            DUE.is("trace stays, read anew", 20L * traces[kind], x.trace());
            Due.tell(x, "wall");
            DUE.is("trace stays behind a fault", 20L * traces[kind], x.trace());
        }
    }

    private static void imagesReadAnew() {
        BedHouse x = Due.told("wall 5;");
        x.keep(0);
        x.keep(1);
        DUE.is("a faulty text", -14, Due.tell(x, "wall"));
        DUE.is("the images stay", 0, x.back(0));
        DUE.is("the images stay", 0, x.back(1));
        x.clear();
        DUE.is("a text", 1, Due.tell(x, "wall 5;"));
        DUE.is("image 0 is gone", -2, x.back(0));
        DUE.is("image 1 is gone", -2, x.back(1));
        x.night();
        DUE.is("image 1 anew", 1, x.keep(1));
        DUE.is("image 0 still gone", -2, x.back(0));
        DUE.is("image 1", 1, x.back(1));
    }

    private static void imagesKeptAgain() {
        BedHouse x = Due.told("wall 5;rain 0 2;sun 0 8;");
        for (int day = 0; day < 5; day++) {
            DUE.is("keep(0) on day " + day, day, x.keep(0));
            x.clue(day, 1);
            x.down(0);
            DUE.is("keep(1) on day " + day, day, x.keep(1));
            DUE.is("back(0)", day, x.back(0));
            DUE.is("place", 5, x.panel(0, 1));
            DUE.is("acts", 0, x.now(1));
            DUE.is("clues", 0, x.count(3));
            DUE.is("leaks", 2 * day, x.now(2));
            DUE.is("back(1)", day, x.back(1));
            DUE.is("place", 8, x.panel(0, 1));
            DUE.is("acts", 1, x.now(1));
            DUE.is("clues", 1, x.count(3));
            DUE.is("back(1) again", day, x.back(1));
            DUE.is("back(0) again", day, x.back(0));
            x.night();
        }
        DUE.is("what is told is not of an image", 2, x.told(3));
    }

    private static void countsAtTheirBounds() {
        BedHouse x = Due.told("wall 8;wall 8;wall 8;wall 8;beam 0 1;beam 0 1;");
        for (int i = 0; i < 8; i++) {
            x.clue(i, 0);
        }
        Due.write(x, " ".repeat(200));
        int[] most = {4, 2, 4, 8, 200};
        for (int what = 0; what < 5; what++) {
            DUE.is("the most of count(" + what + ")", most[what], x.count(what));
        }
        x.forget();
        x.house();
        for (int what = 0; what < 5; what++) {
            DUE.is("the least of count(" + what + ")", 0, x.count(what));
        }
    }
}
