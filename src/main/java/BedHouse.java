/** The house that moves round the bed, as ../shared/DOC.md tells it. */
public final class BedHouse {
    public static final int BAD = -1, STATE = -2, FULL = -3, NONE = -9;
    public static final int NO = -1000000;

    private static final int SLOTS = 8;
    private static final int LYING = 8;
    private static final int MOST_PANELS = 4;
    private static final int MOST_BEAMS = 2;
    private static final int MOST_CLUES = 8;
    private static final int MOST_NIGHTS = 20;
    private static final int LAST_DAY = 999;
    private static final int IMAGES = 2;

    private static final int WALL = 0;
    private static final int GLASS = 1;
    private static final int CURTAIN = 2;
    private static final int ROTTEN = 3;
    // Sets of sorts, a bit a sort.
    private static final int WALLS = 1 << WALL;
    private static final int SHELTERS = 1 << WALL | 1 << GLASS;
    private static final int OPAQUE = 1 << WALL | 1 << CURTAIN | 1 << ROTTEN;
    private static final int ANY_SORT = OPAQUE | 1 << GLASS;

    private final Text text = new Text();
    private final Search search = new Search();
    private final Moment present = new Moment();
    private final Moment[] images = {new Moment(), new Moment()};
    private Plan plan = new Plan();
    // A faulty text must change nothing, so the next plan is written aside.
    private Plan draft = new Plan();
    private long traced;

    public BedHouse() {
    }

    // ---- the house.

    public int type(long v, int n) {
        if (n < 1 || n > 8) {
            return BAD;
        }
        if (n > Text.MOST_BYTES - text.length) {
            return FULL;
        }
        for (int i = n - 1; i >= 0; i--) {
            text.append((int) (v >>> 8 * i) & 255);
        }
        return text.length;
    }

    public int clear() {
        int had = text.length;
        text.length = 0;
        return had;
    }

    public int house() {
        int items = text.tell(draft);
        if (items < 0) {
            return items;
        }
        Plan old = plan;
        plan = draft;
        draft = old;
        text.length = 0;
        search.surveyed = false;
        present.begin(plan.toldHouse);
        for (int i = 0; i < images.length; i++) {
            images[i].kept = false;
        }
        return items;
    }

    public int panel(int p, int what) {
        if (!plan.hasPanel(p)) {
            return BAD;
        }
        switch (what) {
            case 0:
                return plan.sortOf(p);
            case 1:
                return placeIn(present.home, p);
            default:
                return BAD;
        }
    }

    public int slot(int k, int what) {
        if (!isSlot(k)) {
            return BAD;
        }
        switch (what) {
            case 0:
                return plan.panelAt(present.home, k);
            case 1:
                return plan.rain >> k & 1;
            case 2:
                return plan.sun >> k & 1;
            default:
                return BAD;
        }
    }

    public int told(int what) {
        switch (what) {
            case 0:
                return plan.view;
            case 1:
                return plan.noise;
            case 2:
                return plan.mostLying;
            case 3:
                return plan.hands;
            default:
                return BAD;
        }
    }

    public int beam(int k) {
        if (!plan.hasBeam(k)) {
            return BAD;
        }
        return asNumber(plan.isBorne(present.home, k));
    }

    // ---- acts and nights.

    public int down(int p) {
        if (!plan.hasPanel(p)) {
            return BAD;
        }
        if (placeIn(present.home, p) == LYING) {
            return STATE;
        }
        return act(p, LYING);
    }

    public int up(int p, int k) {
        if (!plan.hasPanel(p) || !isSlot(k)) {
            return BAD;
        }
        if (placeIn(present.home, p) != LYING || plan.panelAt(present.home, k) != NONE) {
            return STATE;
        }
        return act(p, k);
    }

    public int night() {
        if (present.day >= LAST_DAY) {
            return STATE;
        }
        int leaks = plan.leaksOf(present.home);
        present.leaks += leaks;
        present.day++;
        present.acts = 0;
        return leaks;
    }

    public int now(int what) {
        switch (what) {
            case 0:
                return present.day;
            case 1:
                return present.acts;
            case 2:
                return present.leaks;
            case 3:
                return plan.worthOf(present.home);
            case 4:
                return asNumber(plan.allows(present.home));
            case 5:
                return plan.leaksOf(present.home);
            default:
                return NO;
        }
    }

    public int lit(int hour) {
        if (!isSlot(hour)) {
            return BAD;
        }
        return plan.litHours(present.home) >> hour & 1;
    }

    // ---- from this house to that.

    public int fewest(int image) {
        if (!isImage(image)) {
            return BAD;
        }
        if (!images[image].kept) {
            return STATE;
        }
        return search.fewestActs(plan, present.home, images[image].home);
    }

    public int first(int image) {
        if (!isImage(image)) {
            return BAD;
        }
        if (!images[image].kept) {
            return STATE;
        }
        return search.firstAct(plan, present.home, images[image].home);
    }

    public int nights(int image) {
        if (!isImage(image)) {
            return BAD;
        }
        if (!images[image].kept) {
            return STATE;
        }
        return search.fewestNights(plan, present, images[image].home);
    }

    public int piano(int k) {
        if (!isSlot(k)) {
            return BAD;
        }
        return search.actsToEmpty(plan, present.home, 1 << k | 1 << (k + 1) % SLOTS);
    }

    public int best(int p) {
        if (p != -1 && !plan.hasPanel(p)) {
            return NO;
        }
        int home = search.bestHome(plan);
        if (home == NONE) {
            return NO;
        }
        return p == -1 ? plan.worthOf(home) : placeIn(home, p);
    }

    // ---- a letter.

    public int clue(int hour, int lit) {
        if (!isSlot(hour) || lit < 0 || lit > 1) {
            return BAD;
        }
        if (present.clues >= MOST_CLUES) {
            return FULL;
        }
        present.clues++;
        if (lit == 1) {
            present.litHours |= 1 << hour;
        } else {
            present.darkHours |= 1 << hour;
        }
        return present.clues;
    }

    public int fit() {
        return search.countFitting(plan, present);
    }

    public int sure(int p) {
        if (!plan.hasPanel(p)) {
            return BAD;
        }
        return search.surePlace(plan, present, p);
    }

    public int forget() {
        int had = present.clues;
        present.clues = 0;
        present.litHours = 0;
        present.darkHours = 0;
        return had;
    }

    // ---- kinds, images.

    public int mark(int kind, int p) {
        if (!plan.hasPanel(p)) {
            return NO;
        }
        switch (kind) {
            case 0:
                return markOfPanel(p);
            case 1:
                return markOfBearing(p);
            case 2:
                return markOfLight(p);
            case 3:
                return markOfOld(p);
            case 4:
                return markOfClear(p);
            case 5:
                return markOfNeighbours(p);
            default:
                return NO;
        }
    }

    public int keep(int image) {
        if (!isImage(image)) {
            return BAD;
        }
        images[image].copyFrom(present);
        images[image].kept = true;
        return present.day;
    }

    public int back(int image) {
        if (!isImage(image)) {
            return BAD;
        }
        if (!images[image].kept) {
            return STATE;
        }
        present.copyFrom(images[image]);
        return present.day;
    }

    public int count(int what) {
        switch (what) {
            case 0:
                return plan.panels;
            case 1:
                return plan.beams;
            case 2:
                return plan.lyingIn(present.home);
            case 3:
                return present.clues;
            case 4:
                return text.length;
            default:
                return BAD;
        }
    }

    public long trace() {
        return traced;
    }

    // ---- what the calls share.

    private int act(int p, int place) {
        int next = moved(present.home, p, place);
        if (present.acts >= plan.hands || !plan.allows(next)) {
            return STATE;
        }
        present.home = next;
        present.acts++;
        return plan.lyingIn(next);
    }

    private boolean isImage(int image) {
        return image >= 0 && image < IMAGES && image < images.length;
    }

    private int markOfPanel(int p) {
        traced += 1;
        return placeIn(present.home, p);
    }

    private int markOfBearing(int p) {
        traced += 10;
        return markOfPanel(p) * 2;
    }

    private int markOfLight(int p) {
        traced += 100;
        return markOfPanel(p) + plan.sortOf(p);
    }

    private int markOfOld(int p) {
        traced += 1000;
        return markOfBearing(p) + present.day;
    }

    private int markOfClear(int p) {
        traced += 10000;
        return markOfLight(p) + plan.lyingIn(present.home);
    }

    private int markOfNeighbours(int p) {
        traced += 100000;
        return markOfPanel(p) - p;
    }

    private static boolean isSlot(int k) {
        return k >= 0 && k < SLOTS;
    }

    private static int asNumber(boolean yes) {
        return yes ? 1 : 0;
    }

    // A house is one number here: four digits to the base 9, each PANEL's place,
    // PANEL 0's the highest, so that the houses' order is the one that BEST asks;
    // the digit of a PANEL that there is not is 0.

    private static int placeIn(int home, int p) {
        switch (p) {
            case 0:
                return home / 729 % 9;
            case 1:
                return home / 81 % 9;
            case 2:
                return home / 9 % 9;
            default:
                return home % 9;
        }
    }

    private static int unitOf(int p) {
        switch (p) {
            case 0:
                return 729;
            case 1:
                return 81;
            case 2:
                return 9;
            default:
                return 1;
        }
    }

    private static int moved(int home, int p, int place) {
        return home + (place - placeIn(home, p)) * unitOf(p);
    }

    /** What a text told; sets of SLOTS are a bit a SLOT. */
    private static final class Plan {
        private final int[] sorts = new int[MOST_PANELS];
        private int panels;
        private int toldHouse;
        private final int[] beamSlots = new int[MOST_BEAMS];
        private int beams;
        private int rain;
        private int sun;
        private int view;
        private int noise;
        private int mostLying;
        private int hands;

        private Plan() {
            startAnew();
        }

        private void startAnew() {
            panels = 0;
            toldHouse = 0;
            beams = 0;
            rain = 0;
            sun = 0;
            view = NONE;
            noise = NONE;
            mostLying = 3;
            hands = 2;
        }

        private boolean hasPanel(int p) {
            return p >= 0 && p < panels && p < sorts.length;
        }

        private boolean hasBeam(int k) {
            return k >= 0 && k < beams && k < beamSlots.length;
        }

        private void addPanel(int sort, int place) {
            if (panels < sorts.length) {
                sorts[panels] = sort;
                toldHouse += place * unitOf(panels);
                panels++;
            }
        }

        private void addBeam(int slots) {
            if (beams < beamSlots.length) {
                beamSlots[beams] = slots;
                beams++;
            }
        }

        private int sortOf(int p) {
            return hasPanel(p) ? sorts[p] : NONE;
        }

        private int panelAt(int home, int k) {
            for (int p = 0; p < panels; p++) {
                if (placeIn(home, p) == k) {
                    return p;
                }
            }
            return NONE;
        }

        private int slotsUnder(int home, int sortSet) {
            int slots = 0;
            for (int p = 0; p < panels && p < sorts.length; p++) {
                int place = placeIn(home, p);
                if (place != LYING && (sortSet >> sorts[p] & 1) == 1) {
                    slots |= 1 << place;
                }
            }
            return slots;
        }

        private int lyingIn(int home) {
            int lying = 0;
            for (int p = 0; p < panels; p++) {
                if (placeIn(home, p) == LYING) {
                    lying++;
                }
            }
            return lying;
        }

        private boolean isBorne(int home, int k) {
            return hasBeam(k) && (slotsUnder(home, WALLS) & beamSlots[k]) != 0;
        }

        /** Whether a house is LAWFUL. */
        private boolean allows(int home) {
            int lying = lyingIn(home);
            if (lying > mostLying) {
                return false;
            }
            // Two PANELS in one SLOT give one bit for the two.
            if (Integer.bitCount(slotsUnder(home, ANY_SORT)) + lying != panels) {
                return false;
            }
            for (int k = 0; k < beams; k++) {
                if (!isBorne(home, k)) {
                    return false;
                }
            }
            return true;
        }

        private int leaksOf(int home) {
            return Integer.bitCount(rain & ~slotsUnder(home, SHELTERS));
        }

        private int litHours(int home) {
            return sun & ~slotsUnder(home, OPAQUE);
        }

        private int worthOf(int home) {
            int worth = 3 * Integer.bitCount(litHours(home)) - 2 * leaksOf(home);
            if (view != NONE && (slotsUnder(home, OPAQUE) >> view & 1) == 0) {
                worth += 5;
            }
            if (noise != NONE) {
                worth += quietIn(home);
            }
            return worth;
        }

        private int quietIn(int home) {
            if ((slotsUnder(home, WALLS) >> noise & 1) == 1) {
                return 4;
            }
            return (slotsUnder(home, ANY_SORT) >> noise & 1) == 1 ? 2 : 0;
        }

        private boolean fitsLetter(int home, Moment letter) {
            int hours = litHours(home);
            return (letter.litHours & ~hours) == 0 && (letter.darkHours & hours) == 0;
        }
    }

    /** What an IMAGE keeps of NOW, and NOW itself. */
    private static final class Moment {
        private int home;
        private int day;
        private int acts;
        private int leaks;
        private int clues;
        // FIT and SURE ask only which HOURS the CLUES name, not in which order or how often.
        private int litHours;
        private int darkHours;
        private boolean kept;

        private void begin(int toldHouse) {
            home = toldHouse;
            day = 0;
            acts = 0;
            leaks = 0;
            clues = 0;
            litHours = 0;
            darkHours = 0;
        }

        private void copyFrom(Moment other) {
            home = other.home;
            day = other.day;
            acts = other.acts;
            leaks = other.leaks;
            clues = other.clues;
            litHours = other.litHours;
            darkHours = other.darkHours;
        }
    }

    /** THE TEXT, and how it is read. */
    private static final class Text {
        private static final int MOST_BYTES = 200;

        private static final int END = 0;
        private static final int WORD = 1;
        private static final int NUMBER = 2;
        private static final int SEMICOLON = 3;
        private static final int WRONG = 4;

        // The first four words are the sorts, by their numbers.
        private static final int BEAM = 4;
        private static final int RAIN = 5;
        private static final int SUN = 6;
        private static final int VIEW = 7;
        private static final int NOISE = 8;
        private static final int DOWN = 9;
        private static final int HANDS = 10;
        private static final int WORDS = 11;

        private final int[] bytes = new int[MOST_BYTES];
        private int length;
        private int at;
        private int tokenStart;
        private int token;
        // The TOKEN's number, or which word it is.
        private int value;
        private boolean downTold;
        private boolean handsTold;

        private void append(int octet) {
            if (length >= 0 && length < bytes.length) {
                bytes[length] = octet;
                length++;
            }
        }

        private int byteAt(int i) {
            return i >= 0 && i < length && i < bytes.length ? bytes[i] : -1;
        }

        /** How many ITEMS the plan was told, or -10 less FAULT. */
        private int tell(Plan draft) {
            draft.startAnew();
            downTold = false;
            handsTold = false;
            at = 0;
            int items = 0;
            nextToken();
            for (int i = 0; i <= MOST_BYTES && token != END; i++) {
                if (!tellItem(draft)) {
                    return -10 - tokenStart;
                }
                items++;
                nextToken();
            }
            return items;
        }

        /** Whether an ITEM could be read; if not, the TOKEN that was read last is at fault. */
        private boolean tellItem(Plan draft) {
            if (token != WORD || !mayBegin(value, draft)) {
                return false;
            }
            int word = value;
            nextToken();
            if (token != NUMBER || !mayBeFirst(word, value, draft)) {
                return false;
            }
            int number = value;
            int size = 1;
            if (word == BEAM || word == RAIN || word == SUN) {
                nextToken();
                if (token != NUMBER || value < 1 || value > SLOTS) {
                    return false;
                }
                size = value;
            }
            nextToken();
            if (token != SEMICOLON) {
                return false;
            }
            apply(word, number, size, draft);
            return true;
        }

        private boolean mayBegin(int word, Plan draft) {
            switch (word) {
                case BEAM:
                    return draft.beams < MOST_BEAMS;
                case RAIN:
                case SUN:
                    return true;
                case VIEW:
                    return draft.view == NONE;
                case NOISE:
                    return draft.noise == NONE;
                case DOWN:
                    return !downTold;
                case HANDS:
                    return !handsTold;
                default:
                    return draft.panels < MOST_PANELS;
            }
        }

        private static boolean mayBeFirst(int word, int number, Plan draft) {
            switch (word) {
                case BEAM:
                case RAIN:
                case SUN:
                case VIEW:
                case NOISE:
                    return isSlot(number);
                case DOWN:
                    return number >= 0 && number <= MOST_PANELS;
                case HANDS:
                    return number >= 1 && number <= 9;
                default:
                    return number == LYING
                        || isSlot(number) && draft.panelAt(draft.toldHouse, number) == NONE;
            }
        }

        private void apply(int word, int number, int size, Plan draft) {
            switch (word) {
                case BEAM:
                    draft.addBeam(slotsFrom(number, size));
                    break;
                case RAIN:
                    draft.rain |= slotsFrom(number, size);
                    break;
                case SUN:
                    draft.sun |= slotsFrom(number, size);
                    break;
                case VIEW:
                    draft.view = number;
                    break;
                case NOISE:
                    draft.noise = number;
                    break;
                case DOWN:
                    draft.mostLying = number;
                    downTold = true;
                    break;
                case HANDS:
                    draft.hands = number;
                    handsTold = true;
                    break;
                default:
                    draft.addPanel(word, number);
                    break;
            }
        }

        private static int slotsFrom(int from, int size) {
            int slots = 0;
            for (int i = 0; i < size && i < SLOTS; i++) {
                slots |= 1 << (from + i) % SLOTS;
            }
            return slots;
        }

        private void nextToken() {
            while (at < length && byteAt(at) == ' ') {
                at++;
            }
            tokenStart = at;
            int sign = byteAt(at);
            if (sign < 0) {
                token = END;
            } else if (isLetter(sign)) {
                readWord();
            } else if (isDigit(sign)) {
                readNumber();
            } else {
                token = sign == ';' ? SEMICOLON : WRONG;
                at++;
            }
        }

        private void readWord() {
            while (at < length && isLetter(byteAt(at))) {
                at++;
            }
            token = WRONG;
            for (int word = 0; word < WORDS; word++) {
                if (isSpelled(spelling(word))) {
                    token = WORD;
                    value = word;
                }
            }
        }

        private boolean isSpelled(String letters) {
            if (letters.length() != at - tokenStart) {
                return false;
            }
            for (int i = 0; i < letters.length(); i++) {
                if (letters.charAt(i) != byteAt(tokenStart + i)) {
                    return false;
                }
            }
            return true;
        }

        private void readNumber() {
            value = 0;
            while (at < length && isDigit(byteAt(at))) {
                // Of a number above 99 it is enough to know that it is: so it can't grow too large.
                value = Math.min(100, value * 10 + byteAt(at) - '0');
                at++;
            }
            boolean zeroAhead = byteAt(tokenStart) == '0' && at - tokenStart > 1;
            token = zeroAhead || value > 99 ? WRONG : NUMBER;
        }

        private static boolean isLetter(int sign) {
            return sign >= 'a' && sign <= 'z';
        }

        private static boolean isDigit(int sign) {
            return sign >= '0' && sign <= '9';
        }

        private static String spelling(int word) {
            switch (word) {
                case WALL:
                    return "wall";
                case GLASS:
                    return "glass";
                case CURTAIN:
                    return "curtain";
                case ROTTEN:
                    return "rotten";
                case BEAM:
                    return "beam";
                case RAIN:
                    return "rain";
                case SUN:
                    return "sun";
                case VIEW:
                    return "view";
                case NOISE:
                    return "noise";
                case DOWN:
                    return "down";
                default:
                    return "hands";
            }
        }
    }

    /** Looks through the LAWFUL houses of a plan, and the acts from one to another. */
    private static final class Search {
        private static final int HOUSES = 6561;
        // 4 PANELS in 8 SLOTS or lying: 3393 ways; and NOW, which need not be LAWFUL.
        private static final int MOST_REACHED = 3394;

        private final byte[] lawful = new byte[HOUSES];
        // By how many acts a house is reached; NONE: it is not.
        private final int[] far = new int[HOUSES];
        // The houses that are reached, the nearest first.
        private final int[] queue = new int[MOST_REACHED];
        private int reached;
        // Whether `lawful` is of the plan that is asked about.
        private boolean surveyed;

        /** Most texts are never searched, so the houses are looked through when it is first asked. */
        private void survey(Plan plan) {
            if (surveyed) {
                return;
            }
            for (int home = 0; home < HOUSES; home++) {
                lawful[home] = 0;
            }
            // The houses are those numbers whose digits are 0 behind the last PANEL's.
            int unit = plan.panels == 0 ? HOUSES : unitOf(plan.panels - 1);
            for (int i = 0; i < HOUSES && i * unit < HOUSES; i++) {
                if (plan.allows(i * unit)) {
                    lawful[i * unit] = 1;
                }
            }
            surveyed = true;
        }

        private boolean isLawful(int home) {
            return home >= 0 && home < HOUSES && lawful[home] == 1;
        }

        private int farTo(int home) {
            return home >= 0 && home < HOUSES ? far[home] : NONE;
        }

        private void spreadFrom(Plan plan, int home) {
            queue[0] = home;
            spread(plan, 1, HOUSES);
        }

        /** Reaches what it can by so many acts from the houses that stand first in the queue. */
        private void spread(Plan plan, int starts, int acts) {
            for (int home = 0; home < HOUSES; home++) {
                far[home] = NONE;
            }
            for (int i = 0; i < starts && i < MOST_REACHED; i++) {
                int start = queue[i];
                if (start >= 0 && start < HOUSES) {
                    far[start] = 0;
                }
            }
            reached = starts;
            for (int i = 0; i < reached && i < MOST_REACHED; i++) {
                int home = queue[i];
                if (farTo(home) >= acts) {
                    return;
                }
                spreadByOneAct(plan, home, farTo(home) + 1);
            }
        }

        private void spreadByOneAct(Plan plan, int home, int acts) {
            for (int p = 0; p < plan.panels; p++) {
                if (placeIn(home, p) != LYING) {
                    reach(moved(home, p, LYING), acts);
                } else {
                    for (int k = 0; k < SLOTS; k++) {
                        reach(moved(home, p, k), acts);
                    }
                }
            }
        }

        private void reach(int home, int acts) {
            if (isLawful(home) && far[home] == NONE && reached < MOST_REACHED) {
                far[home] = acts;
                queue[reached] = home;
                reached++;
            }
        }

        private int fewestActs(Plan plan, int from, int to) {
            survey(plan);
            spreadFrom(plan, from);
            return farTo(to);
        }

        private int firstAct(Plan plan, int from, int to) {
            survey(plan);
            if (from == to || !isLawful(to)) {
                return NONE;
            }
            // Among LAWFUL houses the way back is as long as the way there.
            spreadFrom(plan, to);
            int nearest = HOUSES;
            int answer = NONE;
            for (int p = 0; p < plan.panels; p++) {
                boolean lies = placeIn(from, p) == LYING;
                int begin = lies ? 0 : LYING;
                int end = lies ? SLOTS - 1 : LYING;
                for (int place = begin; place <= end; place++) {
                    int left = farTo(moved(from, p, place));
                    if (left != NONE && left < nearest) {
                        nearest = left;
                        answer = 10 * p + place;
                    }
                }
            }
            return answer;
        }

        private int fewestNights(Plan plan, Moment present, int to) {
            survey(plan);
            queue[0] = present.home;
            spread(plan, 1, plan.hands - present.acts);
            int mornings = 0;
            for (int night = 0; night <= MOST_NIGHTS && present.day + night <= LAST_DAY; night++) {
                if (farTo(to) != NONE) {
                    return night;
                }
                int dry = keepDry(plan);
                // A DRY house may also be left as it is: mornings only gain houses, and
                // as many as the day before are the same ones.
                if (dry == mornings) {
                    return NONE;
                }
                mornings = dry;
                spread(plan, mornings, plan.hands);
            }
            return NONE;
        }

        private int keepDry(Plan plan) {
            int dry = 0;
            for (int i = 0; i < reached && i < MOST_REACHED; i++) {
                if (plan.leaksOf(queue[i]) == 0) {
                    queue[dry] = queue[i];
                    dry++;
                }
            }
            return dry;
        }

        private int actsToEmpty(Plan plan, int from, int slots) {
            survey(plan);
            spreadFrom(plan, from);
            for (int i = 0; i < reached && i < MOST_REACHED; i++) {
                if ((plan.slotsUnder(queue[i], ANY_SORT) & slots) == 0) {
                    return farTo(queue[i]);
                }
            }
            return NONE;
        }

        private int bestHome(Plan plan) {
            survey(plan);
            int answer = NONE;
            int greatest = NO;
            for (int home = 0; home < HOUSES; home++) {
                int worth = isLawful(home) ? plan.worthOf(home) : NO;
                if (worth > greatest) {
                    greatest = worth;
                    answer = home;
                }
            }
            return answer;
        }

        private int countFitting(Plan plan, Moment letter) {
            survey(plan);
            int fitting = 0;
            for (int home = 0; home < HOUSES; home++) {
                if (isLawful(home) && plan.fitsLetter(home, letter)) {
                    fitting++;
                }
            }
            return fitting;
        }

        private int surePlace(Plan plan, Moment letter, int p) {
            survey(plan);
            int answer = NONE;
            for (int home = 0; home < HOUSES; home++) {
                if (isLawful(home) && plan.fitsLetter(home, letter)) {
                    int place = placeIn(home, p);
                    if (answer != NONE && answer != place) {
                        return NONE;
                    }
                    answer = place;
                }
            }
            return answer;
        }
    }
}
