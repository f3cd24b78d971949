/** What the tests share: counting wrong answers, and telling a house by a text. */
final class Due {
    private final String name;
    private int asked;
    private int wrong;

    Due(String name) {
        this.name = name;
    }

    void is(String call, long want, long got) {
        asked++;
        if (got != want) {
            wrong++;
            System.out.println(name + ": " + call + " answered " + got + ", due is " + want);
        }
    }

    void holds(String what, boolean so) {
        is(what, 1, so ? 1 : 0);
    }

    void close() {
        System.out.println(name + ": " + asked + " answers, " + wrong + " not as due");
        if (wrong != 0 || asked == 0) {
            System.exit(1);
        }
    }

    /** Types all of a text, a sign a byte; the answer of the last call. */
    static int write(BedHouse x, String text) {
        int answer = 0;
        for (int from = 0; from < text.length(); from += 8) {
            int end = Math.min(text.length(), from + 8);
            long bytes = 0;
            for (int i = from; i < end; i++) {
                bytes = bytes << 8 | text.charAt(i) & 255;
            }
            answer = x.type(bytes, end - from);
        }
        return answer;
    }

    static int tell(BedHouse x, String text) {
        write(x, text);
        return x.house();
    }

    /** A new object whose house was told. */
    static BedHouse told(String text) {
        BedHouse x = new BedHouse();
        if (tell(x, text) < 0) {
            throw new IllegalStateException("the test's text is faulty: " + text);
        }
        return x;
    }
}
