/** All promises: long runs of calls, whose answers are compared with the model's. */
public final class ModelTest {
    private static final Due DUE = new Due("ModelTest");
    private static final String[] SORTS = {"wall", "glass", "curtain", "rotten"};
    private static final int[] ODD = {-1, -2, 8, 9, 5, 4, Integer.MIN_VALUE, Integer.MAX_VALUE};

    // A row of numbers by a fixed rule, so that each run is the same.
    private static long seed;

    private static int pick(int below) {
        seed = seed * 6364136223846793005L + 1442695040888963407L;
        return (int) ((seed >>> 33) % below);
    }

    private static boolean oneIn(int n) {
        return pick(n) == 0;
    }

    /** A number below n; now and then another one. */
    private static int some(int n) {
        return oneIn(25) ? ODD[pick(ODD.length)] : pick(n);
    }

    private static String goodText() {
        StringBuilder text = new StringBuilder();
        int panels = pick(5);
        int taken = 0;
        for (int p = 0; p < panels; p++) {
            int place = pick(9);
            while (place < 8 && (taken >> place & 1) == 1) {
                place = pick(9);
            }
            taken |= 1 << place;
            String sort = oneIn(2) ? "wall" : SORTS[pick(4)];
            text.append(sort).append(' ').append(place).append(';');
        }
        for (int beams = pick(6) - 3; beams > 0; beams--) {
            text.append("beam ").append(pick(8)).append(' ').append(1 + pick(8)).append(';');
        }
        for (int rains = pick(3); rains > 0; rains--) {
            text.append(" rain").append(pick(8)).append(' ').append(1 + pick(oneIn(3) ? 8 : 2)).append(" ;");
        }
        for (int suns = pick(3); suns > 0; suns--) {
            text.append("sun ").append(pick(8)).append(' ').append(1 + pick(8)).append(';');
        }
        text.append(oneIn(2) ? "view " + pick(8) + ";" : "");
        text.append(oneIn(2) ? "noise " + pick(8) + ";" : "");
        text.append(oneIn(2) ? "down " + pick(5) + ";" : "");
        text.append(oneIn(2) ? "hands " + (1 + pick(9)) + ";" : "");
        return text.toString();
    }

    /** A text in which some bytes are taken out, put in or written over. */
    private static String anyText() {
        StringBuilder text = new StringBuilder(goodText());
        String signs = "0123456789;  wallsunbeamdownzA-\u00ff\t";
        for (int changes = pick(4); changes > 0; changes--) {
            int at = pick(text.length() + 1);
            char sign = signs.charAt(pick(signs.length()));
            if (at < text.length() && oneIn(2)) {
                text.deleteCharAt(at);
            } else if (at < text.length() && oneIn(2)) {
                text.setCharAt(at, sign);
            } else {
                text.insert(at, sign);
            }
        }
        return text.toString();
    }

    private static BedHouse x;
    private static Model m;
    private static String run;
    private static int calls;

    private static void same(String call, long want, long got) {
        calls++;
        DUE.is(run + ", call " + calls + ": " + call + " of " + m, want, got);
    }

    private static void writeText(String text) {
        for (int from = 0; from < text.length(); from += 8) {
            int end = Math.min(text.length(), from + 8);
            // What stands above the n bytes must not matter.
            long bytes = pick(1000);
            for (int i = from; i < end; i++) {
                bytes = bytes << 8 | text.charAt(i);
            }
            same("type", m.type(bytes, end - from), x.type(bytes, end - from));
        }
        same("house of '" + text + "'", m.house(), x.house());
        if (m.count(4) > 0) {
            same("clear", m.clear(), x.clear());
        }
    }

    private static void texts(int runs) {
        for (int r = 0; r < runs; r++) {
            begin("text run " + r);
            while (calls < 450) {
                writeText(oneIn(3) ? goodText() : anyText());
                cheapCall();
            }
        }
    }

    private static void begin(String name) {
        x = new BedHouse();
        m = new Model();
        run = name;
        calls = 0;
    }

    private static void cheapCall() {
        int a = some(8);
        int b = some(8);
        int p = some(4);
        switch (pick(20)) {
            case 0 -> same("panel " + p + " " + b % 2, m.panel(p, b % 2), x.panel(p, b % 2));
            case 1 -> same("panel " + p + " " + b, m.panel(p, b), x.panel(p, b));
            case 2 -> same("slot " + a + " " + p, m.slot(a, p), x.slot(a, p));
            case 3 -> same("told " + p, m.told(p), x.told(p));
            case 4 -> same("beam " + a % 3, m.beam(a % 3), x.beam(a % 3));
            case 5 -> same("lit " + a, m.lit(a), x.lit(a));
            case 6 -> same("now " + a, m.now(a), x.now(a));
            case 7 -> same("count " + a, m.count(a), x.count(a));
            case 8 -> same("mark " + a + " " + p, m.mark(a, p), x.mark(a, p));
            case 9 -> same("trace", m.trace(), x.trace());
            case 10 -> same("night", m.night(), x.night());
            case 11 -> same("clue " + a + " " + b % 2, m.clue(a, b % 2), x.clue(a, b % 2));
            case 12 -> same("keep " + a % 3, m.keep(a % 3), x.keep(a % 3));
            case 13 -> same("back " + a % 3, m.back(a % 3), x.back(a % 3));
            case 14 -> {
                if (oneIn(3)) {
                    same("forget", m.forget(), x.forget());
                }
            }
            case 15, 16 -> same("down " + p, m.down(p), x.down(p));
            default -> same("up " + p + " " + a, m.up(p, a), x.up(p, a));
        }
    }

    private static void searchCall() {
        int image = some(2);
        int k = some(8);
        int p = some(4);
        switch (pick(9)) {
            case 0 -> same("fewest " + image, m.fewest(image), x.fewest(image));
            case 1 -> same("first " + image, m.first(image), x.first(image));
            case 2, 3 -> same("nights " + image, m.nights(image), x.nights(image));
            case 4 -> same("piano " + k, m.piano(k), x.piano(k));
            case 5 -> same("best " + (p - 1), m.best(p - 1), x.best(p - 1));
            case 6 -> same("best " + p, m.best(p), x.best(p));
            case 7 -> same("fit", m.fit(), x.fit());
            default -> same("sure " + p, m.sure(p), x.sure(p));
        }
    }

    private static void acts(int runs) {
        for (int r = 0; r < runs; r++) {
            begin("act run " + r);
            writeText(goodText());
            for (int i = 0; i < 40; i++) {
                cheapCall();
            }
            while (calls < 130) {
                for (int i = 0; i < 6; i++) {
                    cheapCall();
                }
                searchCall();
            }
        }
    }

    /** Acts that are done whenever they can be, so that the houses of the images lie far off. */
    private static void walks(int runs) {
        for (int r = 0; r < runs; r++) {
            begin("walk " + r);
            writeText(goodText());
            same("keep 0", m.keep(0), x.keep(0));
            for (int round = 0; round < 6; round++) {
                for (int i = 0; i < 12; i++) {
                    walk(pick(4), pick(8));
                }
                int image = pick(2);
                same("fewest " + image, m.fewest(image), x.fewest(image));
                same("first " + image, m.first(image), x.first(image));
                same("nights " + image, m.nights(image), x.nights(image));
                same("piano " + round, m.piano(round), x.piano(round));
                if (oneIn(3)) {
                    same("keep 1", m.keep(1), x.keep(1));
                    same("back 0", m.back(0), x.back(0));
                }
            }
        }
    }

    private static void walk(int p, int k) {
        if (m.now(1) == m.told(3)) {
            same("night", m.night(), x.night());
        }
        if (m.panel(p, 1) == 8) {
            same("up " + p + " " + k, m.up(p, k), x.up(p, k));
        } else {
            same("down " + p, m.down(p), x.down(p));
        }
    }

    /** Four walls, two beams side by side and a wet slot: ways that are as long as any found. */
    private static void longWays() {
        for (int hands = 1; hands <= 3; hands++) {
            begin("long ways by " + hands);
            writeText("wall 7;wall 0;wall 3;wall 4;beam 0 2;beam 2 2;rain 4 1;down 1;hands " + hands + ";");
            same("keep 0", m.keep(0), x.keep(0));
            int[] panels = {0, 1, 3, 0, 1, 3, 0, 2, 3, 0, 2, 3};
            int[] slots = {1, 5, 0, 7, 1, 4, 2, 5, 3, 7, 2, 4};
            for (int i = 0; i < panels.length; i++) {
                actOrNight(panels[i], 8);
                actOrNight(panels[i], slots[i]);
                same("fewest 0", m.fewest(0), x.fewest(0));
                same("first 0", m.first(0), x.first(0));
                same("nights 0", m.nights(0), x.nights(0));
            }
            same("keep 1", m.keep(1), x.keep(1));
            same("back 0", m.back(0), x.back(0));
            same("nights 1", m.nights(1), x.nights(1));
            if (hands == 1) {
                same("the longest", 13, x.nights(1));
            }
        }
    }

    private static void actOrNight(int p, int place) {
        if (m.now(1) == m.told(3)) {
            same("night", m.night(), x.night());
        }
        int want = place == 8 ? m.down(p) : m.up(p, place);
        same("act " + p + " " + place, want, place == 8 ? x.down(p) : x.up(p, place));
        same("place", place, x.panel(p, 1));
    }

    private static void anyCall() {
        if (calls < 480 && oneIn(50)) {
            writeText(oneIn(3) ? anyText() : goodText());
        } else if (oneIn(8)) {
            searchCall();
        } else {
            cheapCall();
        }
    }

    /** As many calls as an object is promised for, the last one as right as the first. */
    private static void wholeLives(int runs) {
        for (int r = 0; r < runs; r++) {
            begin("whole life " + r);
            writeText(goodText());
            while (calls < 512) {
                anyCall();
            }
            DUE.is("calls of " + run, 512, calls);
        }
    }

    /** Two objects that are asked by turns: what one does must not be seen in the other. */
    private static void sideBySide(int runs) {
        for (int r = 0; r < runs; r++) {
            begin("side by side " + r);
            writeText(goodText());
            BedHouse otherX = new BedHouse();
            Model otherM = new Model();
            while (calls < 300) {
                BedHouse thisX = x;
                Model thisM = m;
                x = otherX;
                m = otherM;
                otherX = thisX;
                otherM = thisM;
                anyCall();
            }
        }
    }

    public static void main(String[] args) {
        seed = 20261120;
        texts(60);
        acts(250);
        walks(400);
        longWays();
        wholeLives(40);
        sideBySide(40);
        DUE.close();
    }
}
