/**
 * An egg as shells of yolk and white, warmed second by second by a pot that is as warm as a doing
 * tells. The words in capitals, in constants and comments, are those of the document.
 */
public final class EggMinute {
    private static final int NO_SUCH = -1;
    private static final int NO_ROOM = -2;
    private static final int NOT_NOW = -3;
    private static final int NONE = -4;
    private static final int NOTHING_HELD = -11;
    private static final int OTHER_KIND = -12;
    private static final int NO_PLACE = -13;
    private static final int SIZE_BELOW_0 = -14;
    private static final int NO_FAILURE = -15;
    /** Added to a refusal where an answer itself may be below 0. */
    private static final int FAR_BELOW = -1000000000;

    private static final int SHELLS = 0;
    private static final int Y = 1;
    private static final int BOX = 2;
    private static final int PASS = 3;
    private static final int AGE = 4;
    private static final int AIR = 5;
    private static final int FIGURES = 6;
    private static final int[] FIRST_FIGURES = {6, 3, 50, 10, 7, 3};
    private static final int[] LEAST_FIGURES = {2, 0, 0, 1, 0, 0};
    private static final int[] MOST_FIGURES = {12, 12, 300, 30, 60, 20};
    private static final int[] LETTERS = {'n', 'y', 'b', 'p', 'a', 'i'};

    private static final int LEAST_SHELLS = 2;
    private static final int MOST_SHELLS = 12;
    private static final int YOLK_LINE = 640;
    private static final int WHITE_LINE = 620;
    private static final int MOST_SET = 9999;
    private static final int SET_ENOUGH = 100;
    private static final int GREENING = 750;

    private static final int LAST_SECOND = 9999;
    private static final int LONGEST = 600;
    private static final int LONGEST_FOUND = 300;
    private static final int MOST_WARMTH = 1200;
    private static final int MOST_FIGURE = 60;
    private static final int KINDS = 8;
    private static final int COLD_BOX = 40;
    private static final int WARM_BOX = 200;
    private static final int SHELVES = 8;
    private static final int MOST_ELEMENTS = 100;
    private static final int WANT_ELEMENTS = 4;

    private static final int BYTES = 0;
    private static final int SHORTS = 1;
    private static final int INTS = 2;

    private static final int NOWHERE = -1;
    private static final int STUCK = -1;
    private static final int LETTER_DUE = 0;
    private static final int DIGIT_DUE = 1;
    private static final int ONE_DIGIT = 2;
    private static final int TWO_DIGITS = 3;
    private static final int NUMBER_FULL = 4;

    private final Held[] shelves = new Held[SHELVES];
    private final Egg real = new Egg();
    /** The EGG in mind, used again by every call that only reckons. */
    private final Egg mind = new Egg();
    private final Egg taken = new Egg();
    private boolean isTaken;
    private final Doing[] turned = new Doing[MOST_FIGURE + 1];

    public EggMinute() {
        for (int figure = 0; figure <= MOST_FIGURE; figure++) {
            turned[figure] = new Turned(figure);
        }
    }

    // ---- eggs

    public int egg(int d) {
        if (!isShelf(d)) {
            return NO_SUCH;
        }
        Row text = bytesAt(d);
        if (text == null) {
            return nothingOrOther(d);
        }
        int bad = badPlace(text);
        return bad == NOWHERE ? readStatements(text) : -1000 - bad;
    }

    public int set(int what, int n) {
        if (!isFigure(what, n)) {
            return NO_SUCH;
        }
        int was = real.figures[what];
        real.change(what, n);
        return was;
    }

    public int shell(int shell, int what) {
        if (!isShell(shell)) {
            return NO_SUCH;
        }
        switch (what) {
            case 0:
                return real.warmths[shell];
            case 1:
                return real.peaks[shell];
            case 2:
                return real.sets[shell];
            case 3:
                return real.isYolk(shell) ? 1 : 0;
            default:
                return NO_SUCH;
        }
    }

    public int fresh() {
        real.freshen();
        return real.figures[SHELLS];
    }

    // ---- doings

    public int pot(int d, int t) {
        if (!isShelf(d) || !isWithin(t, 0, LAST_SECOND)) {
            return NO_SUCH;
        }
        Doing doing = doingAt(d);
        return doing == null ? nothingOrOther(d) : doing.warmthAt(t);
    }

    public int go(int d, int n) {
        if (!isShelf(d) || !isWithin(n, 1, LONGEST)) {
            return NO_SUCH;
        }
        if (real.second + n > LAST_SECOND) {
            return NO_ROOM;
        }
        Doing doing = doingAt(d);
        if (doing == null) {
            return nothingOrOther(d);
        }
        real.cook(doing, n);
        return real.second;
    }

    public int state(int what) {
        switch (what) {
            case 0:
                return real.second;
            case 1:
                return real.sumOf(real.warmths);
            case 2:
                return real.sumOf(real.sets);
            case 3:
                return real.green;
            case 4:
                return real.looseShells();
            case 5:
                return real.greatestPeak();
            default:
                return NO_SUCH;
        }
    }

    public int had(int d) {
        if (!isShelf(d)) {
            return NO_SUCH;
        }
        Row want = shortsOrIntsAt(d);
        if (want == null) {
            return nothingOrOther(d);
        }
        if (!want.isWant()) {
            return NO_PLACE;
        }
        return real.farOff(want) == 0 ? 1 : 0;
    }

    // ---- wants

    public int least(int d, int e) {
        int refusal = refusalOfWant(d, e);
        return refusal != 0 ? refusal : leastSecond(doingAt(d), shortsOrIntsAt(e), LONGEST);
    }

    public int near(int d, int e, int n, int what) {
        if (!isWithin(n, 1, LONGEST) || !isWithin(what, 0, 1)) {
            return NO_SUCH;
        }
        int refusal = refusalOfWant(d, e);
        return refusal != 0 ? refusal : nearest(doingAt(d), shortsOrIntsAt(e), n, what == 0);
    }

    public int found(int d, int n, int what) {
        if (!isShelf(d) || !isWithin(n, 1, LONGEST_FOUND) || !isWithin(what, 0, 1)) {
            return NO_SUCH;
        }
        Row want = shortsOrIntsAt(d);
        if (want == null) {
            return nothingOrOther(d);
        }
        if (!want.isWant()) {
            return NO_PLACE;
        }
        return soonestTurned(want, n, what == 0);
    }

    // ---- by how much

    public int bears(int d, int figure, int n) {
        if (!isShelf(d) || !isWithin(figure, 0, MOST_FIGURE) || !isWithin(n, 1, LONGEST)) {
            return NO_SUCH;
        }
        Row kinds = bytesAt(d);
        if (kinds == null) {
            return nothingOrOther(d);
        }
        return kinds.holdsKinds() ? bearsBest(kinds, figure, n) : NO_PLACE;
    }

    public int off(int d, int n) {
        if (!isShelf(d) || !isWithin(n, 1, LONGEST)) {
            return FAR_BELOW + NO_SUCH;
        }
        Doing doing = doingAt(d);
        if (doing == null) {
            return FAR_BELOW + nothingOrOther(d);
        }
        int fewer = Math.min(real.figures[SHELLS], MOST_SHELLS - 1);
        return middleBehind(doing, fewer + 1, n) - middleBehind(doing, fewer, n);
    }

    public int size(int d, int n, int warmth) {
        if (!isShelf(d) || !isWithin(n, LEAST_SHELLS, MOST_SHELLS) || !isWithin(warmth, 0, MOST_WARMTH)) {
            return NO_SUCH;
        }
        Doing doing = doingAt(d);
        return doing == null ? nothingOrOther(d) : secondOfWarmth(doing, n, warmth);
    }

    public int table(int d, int n, int t) {
        if (!isShelf(d) || !isWithin(n, LEAST_SHELLS, MOST_SHELLS) || !isWithin(t, 1, LONGEST)) {
            return NO_SUCH;
        }
        Doing doing = doingAt(d);
        return doing == null ? nothingOrOther(d) : middleBehind(doing, n, t);
    }

    public int cracks(int d) {
        if (!isShelf(d)) {
            return NO_SUCH;
        }
        Doing doing = doingAt(d);
        if (doing == null) {
            return nothingOrOther(d);
        }
        int warmer = doing.warmthAt(0) - real.figures[BOX];
        return warmer > 900 - 20 * real.figures[AIR] ? 1 : 0;
    }

    public int peels(int d) {
        if (!isShelf(d)) {
            return NO_SUCH;
        }
        Doing doing = doingAt(d);
        if (doing == null) {
            return nothingOrOther(d);
        }
        int byDoing = doing instanceof Boiled && !(doing instanceof Begun) ? 40 : 0;
        return Math.min(100, real.figures[AGE] * 3 + byDoing);
    }

    public int spin() {
        return spinOf(real.looseShells());
    }

    public int told(int spin, int n, boolean greatest) {
        if (!isWithin(n, 0, 40)) {
            return NO_SUCH;
        }
        int answer = NONE;
        for (int loose = 0; loose <= real.figures[SHELLS]; loose++) {
            // long: a SPIN may be any int, and the difference must not wrap around
            boolean mayBe = Math.abs((long) spin - spinOf(loose)) <= n;
            if (mayBe && (greatest || answer == NONE)) {
                answer = loose;
            }
        }
        return answer;
    }

    public int judge(int shell, int d, int e) {
        if (!isShell(shell) || !isShelf(d) || !isShelf(e)) {
            return NO_SUCH;
        }
        if (shelves[d] == null || shelves[e] == null) {
            return NOTHING_HELD;
        }
        Doing doing = doingAt(d);
        Row readings = rowAt(e);
        if (doing == null || readings == null) {
            return OTHER_KIND;
        }
        return firstNotSo(shell, doing, readings);
    }

    // ---- the image, what is told

    public int image() {
        taken.becomeLike(real);
        isTaken = true;
        return taken.second;
    }

    public int restore() {
        if (!isTaken) {
            return NOT_NOW;
        }
        real.becomeLike(taken);
        return real.second;
    }

    public int count(int what) {
        if (!isWithin(what, 0, FIGURES - 1)) {
            return NO_SUCH;
        }
        return what == Y ? real.yolkShells() : real.figures[what];
    }

    // ---- shelves

    public int keep(int d, int what, int k, int figure) {
        if (!isShelf(d) || !isWithin(what, 0, 1)) {
            return NO_SUCH;
        }
        if (what == 0) {
            shelves[d] = null;
            return 0;
        }
        if (!isWithin(k, 0, KINDS - 1) || !isWithin(figure, 0, MOST_FIGURE)) {
            return NO_SUCH;
        }
        shelves[d] = doingOf(k, figure);
        return 0;
    }

    public int row(int d, int sort, int n) {
        if (!isShelf(d) || !isWithin(sort, BYTES, INTS) || n > MOST_ELEMENTS) {
            return NO_SUCH;
        }
        if (n < 0) {
            return SIZE_BELOW_0;
        }
        shelves[d] = new Row(sort, n);
        return 0;
    }

    public int put(int d, int i, int v) {
        if (!isShelf(d)) {
            return NO_SUCH;
        }
        Row row = rowAt(d);
        if (row == null) {
            return nothingOrOther(d);
        }
        if (!row.hasPlace(i)) {
            return NO_PLACE;
        }
        row.elements[i] = row.lowestBits(v);
        return 0;
    }

    public long element(int d, int i) throws IllegalArgumentException, IllegalStateException {
        if (!isShelf(d)) {
            throw new IllegalArgumentException("no such shelf");
        }
        Row row = rowAt(d);
        if (row == null) {
            throw new IllegalStateException("no row");
        }
        if (!row.hasPlace(i)) {
            throw new IllegalStateException("no such place");
        }
        return row.elements[i];
    }

    public int copy(int d, int i, int e, int j, int n) {
        if (!isShelf(d) || !isShelf(e)) {
            return NO_SUCH;
        }
        if (shelves[d] == null || shelves[e] == null) {
            return NOTHING_HELD;
        }
        Row from = rowAt(d);
        Row to = rowAt(e);
        if (from == null || to == null || from.sort != to.sort) {
            return OTHER_KIND;
        }
        if (!from.hasPlaces(i, n) || !to.hasPlaces(j, n)) {
            return NO_PLACE;
        }
        System.arraycopy(from.elements, i, to.elements, j, n);
        return n;
    }

    public int weight(int d) {
        if (!isShelf(d)) {
            return FAR_BELOW + NO_SUCH;
        }
        Doing doing = doingAt(d);
        return doing == null ? FAR_BELOW + nothingOrOther(d) : doing.heft();
    }

    public int toss(int d) {
        if (!isShelf(d)) {
            return NO_SUCH;
        }
        Doing doing = doingAt(d);
        return doing == null ? nothingOrOther(d) : caughtFailure(doing);
    }

    // ---- what is on a shelf

    private static boolean isWithin(int n, int least, int most) {
        return n >= least && n <= most;
    }

    private static boolean isShelf(int d) {
        return isWithin(d, 0, SHELVES - 1);
    }

    private boolean isShell(int shell) {
        return isWithin(shell, 0, real.figures[SHELLS] - 1);
    }

    private static boolean isFigure(int what, int n) {
        return isWithin(what, 0, FIGURES - 1) && isWithin(n, LEAST_FIGURES[what], MOST_FIGURES[what]);
    }

    private int nothingOrOther(int d) {
        return shelves[d] == null ? NOTHING_HELD : OTHER_KIND;
    }

    private Doing doingAt(int d) {
        return shelves[d] instanceof Doing doing ? doing : null;
    }

    private Row rowAt(int d) {
        return shelves[d] instanceof Row row ? row : null;
    }

    private Row bytesAt(int d) {
        Row row = rowAt(d);
        return row != null && row.sort == BYTES ? row : null;
    }

    private Row shortsOrIntsAt(int d) {
        Row row = rowAt(d);
        return row != null && row.sort != BYTES ? row : null;
    }

    /** 0, if SHELF d has a DOING and SHELF e a WANT. */
    private int refusalOfWant(int d, int e) {
        if (!isShelf(d) || !isShelf(e)) {
            return NO_SUCH;
        }
        if (shelves[d] == null || shelves[e] == null) {
            return NOTHING_HELD;
        }
        Row want = shortsOrIntsAt(e);
        if (doingAt(d) == null || want == null) {
            return OTHER_KIND;
        }
        return want.isWant() ? 0 : NO_PLACE;
    }

    private static Doing doingOf(int kind, int figure) {
        switch (kind) {
            case 1:
                return new Boiled(figure);
            case 2:
                return new Begun(figure);
            case 3:
                return new Slow(figure);
            case 4:
                return new Turned(figure);
            case 5:
                return new Stopped(figure);
            case 6:
                return new Many(figure);
            case 7:
                return new High(figure);
            default:
                return new Doing(figure);
        }
    }

    private static int caughtFailure(Doing doing) {
        try {
            doing.fail();
        } catch (UnsupportedOperationException highFailed) {
            return 200 + doing.heft();
        } catch (IllegalStateException turnedFailed) {
            return 100 + doing.figure;
        } catch (IllegalArgumentException failed) {
            return doing.figure;
        }
        return NO_FAILURE;
    }

    // ---- an egg as a text

    /** The first place at which no EGG can go on, the size if the text ends too early, or NOWHERE. */
    private static int badPlace(Row text) {
        int size = text.elements.length;
        int stand = LETTER_DUE;
        for (int place = 0; place < size; place++) {
            stand = standBehind(stand, text.elements[place]);
            if (stand == STUCK) {
                return place;
            }
        }
        return size > 0 && stand == LETTER_DUE ? NOWHERE : size;
    }

    private static int standBehind(int stand, int sign) {
        switch (stand) {
            case LETTER_DUE:
                return figureOfLetter(sign) == NOWHERE ? STUCK : DIGIT_DUE;
            case DIGIT_DUE:
                // nothing may follow a 0 that is ahead
                return sign == '0' ? NUMBER_FULL : isDigit(sign) ? ONE_DIGIT : STUCK;
            case ONE_DIGIT:
                return sign == ';' ? LETTER_DUE : isDigit(sign) ? TWO_DIGITS : STUCK;
            case TWO_DIGITS:
                return sign == ';' ? LETTER_DUE : isDigit(sign) ? NUMBER_FULL : STUCK;
            default:
                return sign == ';' ? LETTER_DUE : STUCK;
        }
    }

    private static boolean isDigit(int sign) {
        return isWithin(sign, '0', '9');
    }

    private static int figureOfLetter(int sign) {
        for (int what = 0; what < FIGURES; what++) {
            if (LETTERS[what] == sign) {
                return what;
            }
        }
        return NOWHERE;
    }

    /** Reads a text without bad places: into the EGG in mind first, as a FAULT must change nothing. */
    private int readStatements(Row text) {
        mind.takeFigures(real);
        int statements = 0;
        int letterPlace = 0;
        int what = NOWHERE;
        int number = 0;
        for (int place = 0; place < text.elements.length; place++) {
            int sign = text.elements[place];
            if (isDigit(sign)) {
                number = number * 10 + sign - '0';
            } else if (sign != ';') {
                what = figureOfLetter(sign);
                letterPlace = place;
                number = 0;
            } else if (isFigure(what, number)) {
                mind.figures[what] = number;
                statements++;
            } else {
                return -2000 - letterPlace;
            }
        }
        real.takeFigures(mind);
        real.freshen();
        return statements;
    }

    // ---- what is reckoned with the egg in mind

    /** The EGG in mind, FRESH, like the real one but for one figure. */
    private Egg freshWith(int what, int n) {
        mind.takeFigures(real);
        mind.change(what, n);
        return mind;
    }

    private Egg freshInMind() {
        return freshWith(SHELLS, real.figures[SHELLS]);
    }

    private int leastSecond(Doing doing, Row want, int last) {
        Egg egg = freshInMind();
        for (int second = 1; second <= last; second++) {
            egg.cookSecond(doing);
            if (egg.farOff(want) == 0) {
                return second;
            }
        }
        return NONE;
    }

    private int nearest(Doing doing, Row want, int last, boolean howFar) {
        Egg egg = freshInMind();
        int leastOff = Integer.MAX_VALUE;
        int secondOfThat = 0;
        for (int second = 1; second <= last; second++) {
            egg.cookSecond(doing);
            int off = egg.farOff(want);
            if (off < leastOff) {
                leastOff = off;
                secondOfThat = second;
            }
        }
        return howFar ? leastOff : secondOfThat;
    }

    private int soonestTurned(Row want, int last, boolean asFigure) {
        int best = NONE;
        int soonest = last + 1;
        for (int figure = 0; figure <= MOST_FIGURE; figure++) {
            // only a sooner one counts: of several the least FIGURE stays
            int second = leastSecond(turned[figure], want, soonest - 1);
            if (second != NONE) {
                soonest = second;
                best = figure;
            }
        }
        return best == NONE || asFigure ? best : soonest;
    }

    private int bearsBest(Row kinds, int figure, int seconds) {
        int best = 0;
        int leastDiffer = Integer.MAX_VALUE;
        int tried = 0;
        for (int place = 0; place < kinds.elements.length; place++) {
            int kind = kinds.elements[place];
            // a KIND told again bears no better than before
            if ((tried & 1 << kind) == 0) {
                tried |= 1 << kind;
                Doing doing = doingOf(kind, figure);
                int differ = Math.abs(middlePeak(doing, COLD_BOX, seconds) - middlePeak(doing, WARM_BOX, seconds));
                if (differ < leastDiffer) {
                    leastDiffer = differ;
                    best = place;
                }
            }
        }
        return best;
    }

    private int middlePeak(Doing doing, int box, int seconds) {
        Egg egg = freshWith(BOX, box);
        egg.cook(doing, seconds);
        return egg.peaks[0];
    }

    private int middleBehind(Doing doing, int shells, int seconds) {
        Egg egg = freshWith(SHELLS, shells);
        egg.cook(doing, seconds);
        return egg.warmths[0];
    }

    private int secondOfWarmth(Doing doing, int shells, int warmth) {
        Egg egg = freshWith(SHELLS, shells);
        for (int second = 1; second <= LONGEST; second++) {
            egg.cookSecond(doing);
            if (egg.warmths[0] >= warmth) {
                return second;
            }
        }
        return NONE;
    }

    private int firstNotSo(int shell, Doing doing, Row readings) {
        Egg egg = freshInMind();
        int skipped = readings.leastOfSort();
        for (int place = 0; place < readings.elements.length; place++) {
            egg.cookSecond(doing);
            int reading = readings.elements[place];
            if (reading != skipped && reading != egg.warmths[shell]) {
                return place;
            }
        }
        return NONE;
    }

    private static int spinOf(int loose) {
        return (20 - loose) * 2;
    }

    /** What a SHELF can hold. */
    private interface Held {
    }

    /** A ROW; its elements are ints whose values fit its SORT. */
    private static final class Row implements Held {
        final int sort;
        final int[] elements;

        Row(int sort, int n) {
            this.sort = sort;
            this.elements = new int[n];
        }

        boolean hasPlace(int i) {
            return isWithin(i, 0, elements.length - 1);
        }

        boolean hasPlaces(int from, int n) {
            // no sum of the two, which could wrap around
            return n >= 0 && n <= elements.length && from >= 0 && from <= elements.length - n;
        }

        int lowestBits(int v) {
            return sort == BYTES ? (byte) v : sort == SHORTS ? (short) v : v;
        }

        int leastOfSort() {
            return sort == BYTES ? -128 : sort == SHORTS ? -32768 : Integer.MIN_VALUE;
        }

        boolean isWant() {
            return elements.length == WANT_ELEMENTS && holdsAllWithin(MOST_WARMTH);
        }

        boolean holdsKinds() {
            return elements.length > 0 && holdsAllWithin(KINDS - 1);
        }

        private boolean holdsAllWithin(int most) {
            for (int i = 0; i < elements.length; i++) {
                if (!isWithin(elements[i], 0, most)) {
                    return false;
                }
            }
            return true;
        }
    }

    /** An EGG: its figures as `set` numbers them, and what has come of it since it was FRESH. */
    private static final class Egg {
        final int[] figures = new int[FIGURES];
        final int[] warmths = new int[MOST_SHELLS];
        final int[] peaks = new int[MOST_SHELLS];
        final int[] sets = new int[MOST_SHELLS];
        int second;
        int green;

        Egg() {
            System.arraycopy(FIRST_FIGURES, 0, figures, 0, FIGURES);
            freshen();
        }

        void freshen() {
            for (int i = 0; i < MOST_SHELLS; i++) {
                warmths[i] = figures[BOX];
                peaks[i] = figures[BOX];
                sets[i] = 0;
            }
            second = 0;
            green = 0;
        }

        void change(int what, int n) {
            figures[what] = n;
            freshen();
        }

        void takeFigures(Egg other) {
            System.arraycopy(other.figures, 0, figures, 0, FIGURES);
        }

        void becomeLike(Egg other) {
            takeFigures(other);
            System.arraycopy(other.warmths, 0, warmths, 0, MOST_SHELLS);
            System.arraycopy(other.peaks, 0, peaks, 0, MOST_SHELLS);
            System.arraycopy(other.sets, 0, sets, 0, MOST_SHELLS);
            second = other.second;
            green = other.green;
        }

        int yolkShells() {
            return Math.min(figures[Y], figures[SHELLS]);
        }

        boolean isYolk(int i) {
            return i < figures[Y];
        }

        void cook(Doing doing, int seconds) {
            for (int i = 0; i < seconds; i++) {
                cookSecond(doing);
            }
        }

        void cookSecond(Doing doing) {
            letWarmthPass(doing.warmthAt(second));
            second++;
            noteShells();
            noteGreen();
        }

        private void letWarmthPass(int pot) {
            int yolkPasses = figures[PASS];
            int whitePasses = yolkPasses + yolkPasses / 2;
            int last = figures[SHELLS] - 1;
            int fromInside = 0;
            int passes = yolkPasses;
            for (int i = 0; i < last; i++) {
                // where two touch, the outer one's count
                passes = isYolk(i + 1) ? yolkPasses : whitePasses;
                int fromOutside = passes * (warmths[i + 1] - warmths[i]) / 100;
                warmths[i] += fromInside + fromOutside;
                // cutting toward 0 makes what one gets just what its neighbour gives
                fromInside = -fromOutside;
            }
            // there are two SHELLS or more: passes are the outmost's own by now
            warmths[last] += fromInside + passes * (pot - warmths[last]) / 100;
        }

        private void noteShells() {
            for (int i = 0; i < figures[SHELLS]; i++) {
                int above = warmths[i] - (isYolk(i) ? YOLK_LINE : WHITE_LINE);
                if (above > 0) {
                    sets[i] = Math.min(MOST_SET, sets[i] + above / 10 + 1);
                }
                peaks[i] = Math.max(peaks[i], warmths[i]);
            }
        }

        private void noteGreen() {
            int outmostYolk = yolkShells() - 1;
            if (outmostYolk >= 0 && warmths[outmostYolk] >= GREENING) {
                green++;
            }
        }

        int sumOf(int[] ofShells) {
            int sum = 0;
            for (int i = 0; i < figures[SHELLS]; i++) {
                sum += ofShells[i];
            }
            return sum;
        }

        int looseShells() {
            int loose = 0;
            for (int i = 0; i < figures[SHELLS]; i++) {
                if (sets[i] < SET_ENOUGH) {
                    loose++;
                }
            }
            return loose;
        }

        int greatestPeak() {
            int greatest = 0;
            for (int i = 0; i < figures[SHELLS]; i++) {
                greatest = Math.max(greatest, peaks[i]);
            }
            return greatest;
        }

        /** All that PEAKS are off from their part's two in a WANT; it is HAD if that is 0. */
        int farOff(Row want) {
            int off = 0;
            for (int i = 0; i < figures[SHELLS]; i++) {
                int part = isYolk(i) ? 2 : 0;
                off += Math.max(0, want.elements[part] - peaks[i]);
                off += Math.max(0, peaks[i] - want.elements[part + 1]);
            }
            return off;
        }
    }

    /** A DOING, and what all KINDS are under. */
    private static class Doing implements Held {
        final int figure;

        Doing(int figure) {
            this.figure = figure;
        }

        int warmthAt(int t) {
            return 200;
        }

        int heft() {
            return 3;
        }

        /** Throws the FAILURE, if there is one; which exception it is tells how it is answered. */
        void fail() {
            if (figure > 0) {
                throw new IllegalArgumentException("a doing failed");
            }
        }
    }

    private static class Boiled extends Doing {
        Boiled(int figure) {
            super(figure);
        }

        @Override
        int warmthAt(int t) {
            return 1000;
        }

        @Override
        int heft() {
            return super.heft() + 10;
        }
    }

    private static final class Begun extends Boiled {
        Begun(int figure) {
            super(figure);
        }

        @Override
        int warmthAt(int t) {
            return Math.min(super.warmthAt(t), 100 + t * (figure / 10 + 1));
        }

        @Override
        int heft() {
            return super.heft() + figure;
        }
    }

    private static final class Slow extends Doing {
        Slow(int figure) {
            super(figure);
        }

        @Override
        int warmthAt(int t) {
            return 600 + figure * 2;
        }

        @Override
        int heft() {
            return super.heft() * figure;
        }

        @Override
        void fail() {
            // a SLOW one has no FAILURE
        }
    }

    private static final class Turned extends Boiled {
        Turned(int figure) {
            super(figure);
        }

        @Override
        int warmthAt(int t) {
            return t / (figure + 1) % 2 == 0 ? super.warmthAt(t) : 300;
        }

        @Override
        int heft() {
            return super.heft() * 2;
        }

        @Override
        void fail() {
            if (figure > 0) {
                throw new IllegalStateException("a turned one failed");
            }
        }
    }

    private static final class Stopped extends Boiled {
        Stopped(int figure) {
            super(figure);
        }

        @Override
        int warmthAt(int t) {
            return t < 10 * figure ? super.warmthAt(t) : 20;
        }

        @Override
        int heft() {
            return super.heft() - figure;
        }
    }

    private static final class Many extends Boiled {
        Many(int figure) {
            super(figure);
        }

        @Override
        int warmthAt(int t) {
            int boiled = super.warmthAt(t);
            return Math.min(boiled, boiled - 5 * figure + t);
        }

        @Override
        int heft() {
            return super.heft() * 3;
        }
    }

    private static final class High extends Boiled {
        High(int figure) {
            super(figure);
        }

        @Override
        int warmthAt(int t) {
            return super.warmthAt(t) - 4 * figure;
        }

        @Override
        int heft() {
            return super.heft() / 2 + figure;
        }

        @Override
        void fail() {
            if (figure > 0) {
                throw new UnsupportedOperationException("a high one failed");
            }
        }
    }
}
