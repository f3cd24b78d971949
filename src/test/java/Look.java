import java.util.ArrayList;
import java.util.List;

/** All that can be seen of an object, as one text: two objects with the same text can't be told apart. */
final class Look {
    private Look() {
    }

    /** What can be seen by calls that change nothing. */
    static String now(BedHouse x) {
        List<Long> seen = new ArrayList<>();
        for (int k = 0; k < 8; k++) {
            for (int what = 0; what < 3; what++) {
                seen.add((long) x.slot(k, what));
            }
            seen.add((long) x.lit(k));
        }
        for (int what = 0; what < 6; what++) {
            seen.add((long) x.now(what));
            seen.add((long) x.told(what));
            seen.add((long) x.count(what));
        }
        for (int p = 0; p < 4; p++) {
            seen.add((long) x.panel(p, 0));
            seen.add((long) x.panel(p, 1));
            seen.add((long) x.sure(p));
            seen.add((long) x.best(p));
        }
        seen.add((long) x.beam(0));
        seen.add((long) x.beam(1));
        seen.add((long) x.best(-1));
        seen.add((long) x.piano(3));
        seen.add((long) x.fit());
        seen.add(x.trace());
        for (int image = 0; image < 2; image++) {
            seen.add((long) x.fewest(image));
            seen.add((long) x.first(image));
            seen.add((long) x.nights(image));
        }
        return seen.toString();
    }

    /** What is seen now, in the images, and of THE TEXT once it is told; the object is used up then. */
    static String all(BedHouse x) {
        StringBuilder seen = new StringBuilder(now(x));
        for (int image = 0; image < 2; image++) {
            seen.append(x.back(image)).append(now(x));
        }
        seen.append(x.house()).append(now(x)).append(x.forget()).append(x.clear());
        return seen.toString();
    }
}
