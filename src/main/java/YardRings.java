import java.util.Arrays;
import java.util.NoSuchElementException;

/** Rings of stones gone over with a tape, and how near whole units their sizes are; see README.md. */
public final class YardRings {
    public static final int NONE = -1;

    private static final int NOT_SO_MANY = -2;
    private static final int NO_SUCH_UNIT_OR_LAND = -2;

    private static final int TAPE_MOST = 900;
    private static final int BYTES_OF_FEED = 20;
    private static final int LANDS_MOST = 4;
    private static final int RINGS_MOST = 8;
    private static final int STONES_MOST = 10;
    private static final int WAYS_MOST = 5;
    private static final int SAYINGS_MOST = 20;
    private static final int MEASURERS_MOST = 6;
    private static final int NOTES_MOST = 60;
    private static final int KNOTS_MOST = 64;
    private static final int OPEN_MOST = 8;
    private static final int LETTERS_MOST = 6;

    private static final int PLACE_MOST = 999;
    private static final int LEAN_MOST = 99;
    private static final int SAID_MOST = 99999;
    private static final int RULE_NUMBER_MOST = 9999;
    private static final int GRID_MOST = 9;
    private static final int STEP_MOST = 20;
    private static final int SLACK_MOST = 9999;
    private static final int GRID_UNTOLD = 4;
    private static final int STEP_UNTOLD = 6;
    private static final int SLACK_UNTOLD = 300;
    private static final int MODE_MOST = 3;

    private static final int UNIT_LEAST = 100;
    private static final int UNIT_MOST = 9999;
    private static final int UNITS_MOST = 1000;
    private static final int UNITS_MOST_BY_DRAWS = 100;
    private static final int DRAWS_MOST = 50;
    private static final int SWAY_MOST = 9999;
    private static final int SIZE_MOST = 999999;
    private static final int PARTS = 1000000000;
    private static final long VALUE_MOST = 1000000000000L;
    private static final int BINS = 6;

    /* What a stone has, in the order in which look() asks for it. */
    private static final int STONE_X = 0;
    private static final int STONE_Y = 1;
    private static final int STONE_LEAN_X = 2;
    private static final int STONE_LEAN_Y = 3;
    private static final int STONE_AGAIN = 4;
    private static final int STONE_GONE = 5;
    private static final int STONE_FIELDS = 6;

    /* A way's row: its weight, then its bins. */
    private static final int WAY_FIELDS = 1 + BINS;

    private static final int SAYING_WHO = 0;
    private static final int SAYING_RING = 1;
    private static final int SAYING_SIZE = 2;
    private static final int SAYING_BLIND = 3;
    private static final int SAYING_FIELDS = 4;

    private static final int NOTE_TAPED = 0;
    private static final int NOTE_GONE = 1;
    private static final int NOTE_STRIKE = 2;

    private static final int TURNS = 4;
    private static final int SORTS = 3;
    /* A shape is a sort times four and a turn; shapes 1 to 3 are none, for a round ring has turn 0 alone. */
    private static final int SHAPES = SORTS * TURNS;
    private static final int STONES_FOR_FIT = 3;
    private static final int FLATTENED = 1;
    private static final int EAST = 0;
    private static final int NORTH = 1;
    private static final int WEST = 2;
    private static final int SOUTH = 3;

    private static final int FAULT_TOKEN = 1;
    private static final int FAULT_TOO_MUCH = 2;
    private static final int FAULT_TOLD = 3;
    private static final int FAULT_UNTOLD = 4;

    /* Kinds of tokens; the words of the language follow WORDS in the order of LANGUAGE. */
    private static final int END = 0;
    private static final int BAD = 1;
    private static final int NAME = 2;
    private static final int NUMBER = 3;
    private static final int SEMICOLON = 4;
    private static final int OPEN = 5;
    private static final int CLOSE = 6;
    private static final int PLUS = 7;
    private static final int MINUS = 8;
    private static final int STAR = 9;
    private static final int SLASH = 10;
    private static final int BELOW = 11;
    private static final int AT_MOST = 12;
    private static final int EQUAL = 13;
    private static final int UNLIKE = 14;
    private static final int AT_LEAST = 15;
    private static final int ABOVE = 16;
    private static final int WORDS = 20;
    private static final int LAND = 20;
    private static final int RING = 21;
    private static final int STONE = 22;
    private static final int LEAN = 23;
    private static final int AGAIN = 24;
    private static final int GONE = 25;
    private static final int WAY = 26;
    private static final int NEAR = 27;
    private static final int SAID = 28;
    private static final int BLIND = 29;
    private static final int GRID = 30;
    private static final int SLACK = 31;
    private static final int OR = 32;
    private static final int AND = 33;
    private static final int NOT = 34;
    private static final int OFF = 35;
    private static final int UNIT = 36;
    private static final int SIZE = 37;
    private static final int TIMES = 38;
    private static final int STONES = 39;
    private static final int SORT = 40;
    private static final int WORD_MANY = 21;
    private static final String LANGUAGE =
        "land ring stone lean again gone way near said blind grid slack or and not off unit size times stones sort";

    /* How tightly a sign of a rule binds. */
    private static final int RANK_NONE = 0;
    private static final int RANK_OR = 1;
    private static final int RANK_AND = 2;
    private static final int RANK_NOT = 3;
    private static final int RANK_COMPARES = 4;
    private static final int RANK_SUM = 5;
    private static final int RANK_PRODUCT = 6;

    private final char[] tape = new char[TAPE_MOST];
    private int taped = 0;
    private final Reader reader = new Reader();
    /* A text is read into the spare survey, so that a fault leaves the told one as it is. */
    private Survey told = new Survey();
    private Survey spare = new Survey();
    private final Notes notes = new Notes();
    private int knownBy = NONE;
    private int modeNow = 0;
    private boolean byHalves = false;
    private final Fits now = new Fits();
    private final Fits then = new Fits();
    private final Sizes sizes = new Sizes();
    private final Sizes drawn = new Sizes();
    private final long[] row = new long[RINGS_MOST + 1];

    public YardRings() {
    }

    // ---- the text and its notes

    public int feed(int a, int b, int c, int d, int e) {
        if (taped < 0 || taped + BYTES_OF_FEED > TAPE_MOST) {
            return NONE;
        }
        putFourBytes(a);
        putFourBytes(b);
        putFourBytes(c);
        putFourBytes(d);
        putFourBytes(e);
        return taped;
    }

    private void putFourBytes(int number) {
        for (int shift = 24; shift >= 0 && taped < TAPE_MOST; shift -= 8) {
            tape[taped] = (char) ((number >>> shift) & 255);
            taped++;
        }
    }

    public int text(int n) {
        if (n < 0 || n > taped) {
            return NOT_SO_MANY;
        }
        taped = 0;
        if (!reader.read(tape, n, spare)) {
            return NONE;
        }
        Survey before = told;
        told = spare;
        spare = before;
        notes.many = 0;
        knownBy = NONE;
        learnAnew();
        return reader.lines;
    }

    public int fault(int what) {
        switch (what) {
            case 0:
                return reader.fault;
            case 1:
                return reader.place;
            default:
                return NONE;
        }
    }

    public int named(int what, int letters) {
        switch (what) {
            case 0:
                return told.lands.find(letters);
            case 1:
                return told.rings.find(letters);
            case 2:
                return told.ways.find(letters);
            case 3:
                return told.measurers.find(letters);
            default:
                return NONE;
        }
    }

    public int look(int ring, int stone, int what) throws IndexOutOfBoundsException, NoSuchElementException {
        if (!told.hasStone(ring, stone)) {
            throw new IndexOutOfBoundsException("no such ring or stone");
        }
        if (what < 0 || what >= STONE_FIELDS) {
            throw new NoSuchElementException("no such what");
        }
        return now.stone[stoneAt(ring, stone) + what];
    }

    public int about(int ring, int what) {
        if (!told.hasRing(ring)) {
            return NONE;
        }
        switch (what) {
            case 0:
                return told.ringLand[ring];
            case 1:
                return told.stones[ring];
            case 2:
                return now.standing[ring];
            default:
                return NONE;
        }
    }

    public int tape(int ring, int stone, int x, int y) {
        if (!told.hasStone(ring, stone) || isBeyond(x, -PLACE_MOST, PLACE_MOST) || isBeyond(y, -PLACE_MOST, PLACE_MOST)) {
            return NONE;
        }
        return takeNote(NOTE_TAPED, stoneAt(ring, stone), x, y);
    }

    public int gone(int ring, int stone, boolean gone) {
        if (!told.hasStone(ring, stone)) {
            return NONE;
        }
        return takeNote(NOTE_GONE, stoneAt(ring, stone), gone ? 1 : 0, 0);
    }

    public int strike(int note) {
        if (note < 0 || note >= notes.many) {
            return NONE;
        }
        return takeNote(NOTE_STRIKE, note, 0, 0);
    }

    public boolean known(int n) {
        if (isBeyond(n, NONE, notes.many)) {
            return false;
        }
        knownBy = n;
        learnAnew();
        return true;
    }

    public boolean mode(int mode, boolean halves) {
        if (isBeyond(mode, 0, MODE_MOST)) {
            return false;
        }
        modeNow = mode;
        byHalves = halves;
        learnAnew();
        return true;
    }

    private int takeNote(int kind, int where, int first, int second) {
        int number = notes.put(kind, where, first, second);
        if (number != NONE) {
            learnAnew();
        }
        return number;
    }

    private int notesKnown() {
        return knownBy == NONE ? notes.many : knownBy;
    }

    private void learnAnew() {
        now.learn(told, notes, notesKnown(), modeNow);
    }

    // ---- fits

    public int fit(int ring, int sort, int turn, int what) {
        if (isBeyond(sort, 0, SORTS - 1) || isBeyond(turn, 0, TURNS - 1)) {
            return Integer.MIN_VALUE;
        }
        int at = now.fitAt(ring, sort * TURNS + turn);
        if (at == NONE) {
            return Integer.MIN_VALUE;
        }
        switch (what) {
            case 0:
                return now.size[at];
            case 1:
                return now.misfit[at];
            case 2:
                return now.middleX[at];
            case 3:
                return now.middleY[at];
            default:
                return Integer.MIN_VALUE;
        }
    }

    public int best(int ring, int what) {
        int shape = now.bestShape(ring);
        int at = now.fitAt(ring, shape);
        if (at == NONE) {
            return NONE;
        }
        switch (what) {
            case 0:
                return shape / TURNS;
            case 1:
                return shape % TURNS;
            case 2:
                return now.size[at];
            case 3:
                return now.misfit[at];
            default:
                return NONE;
        }
    }

    public int well(int ring) {
        return now.isFitted(ring) ? now.shapesAsWell(ring, told.slack) : NONE;
    }

    public int span(int ring, int what) {
        if (!now.isFitted(ring) || isBeyond(what, 0, 1)) {
            return NONE;
        }
        return now.edgeOfSpan(ring, told.slack, what == 1);
    }

    public int next() {
        int widest = NONE;
        int found = NONE;
        for (int ring = 0; ring < RINGS_MOST; ring++) {
            if (!now.isFitted(ring)) {
                continue;
            }
            int width = now.edgeOfSpan(ring, told.slack, true) - now.edgeOfSpan(ring, told.slack, false);
            if (width > widest) {
                widest = width;
                found = ring;
            }
        }
        return found;
    }

    // ---- sizes by one unit

    public int whole(int size, int unit, int what) {
        if (isBeyond(size, 0, SIZE_MOST) || !isUnit(unit)) {
            return NONE;
        }
        int places = placesOf(unit, byHalves);
        switch (what) {
            case 0:
                return offBy(size, places);
            case 1:
                return timesBy(size, places);
            default:
                return NONE;
        }
    }

    public int near(int unit) {
        if (!isUnit(unit)) {
            return NONE;
        }
        int bits = 0;
        for (int ring = 0; ring < RINGS_MOST; ring++) {
            if (isNearBy(ring, unit)) {
                bits |= 1 << ring;
            }
        }
        return bits;
    }

    private boolean isNearBy(int ring, int unit) {
        int shape = now.bestShape(ring);
        return shape != NONE && isNearAs(now.bestSize(ring), unit, now.standing[ring], shape / TURNS);
    }

    private boolean isNearAs(int size, int unit, int stones, int sort) {
        int places = placesOf(unit, byHalves);
        int off = offBy(size, places);
        if (!told.hasRule) {
            return 8 * off <= unit;
        }
        return told.rule.holds(off, unit, size, timesBy(size, places), stones, sort);
    }

    public int lumps(int unit) {
        if (!isUnit(unit)) {
            return NONE;
        }
        gather(NONE, NONE);
        return sizes.sumOfLumps(placesOf(unit, byHalves));
    }

    /** The sizes of the rings with a fit, of one land or of one sort alone unless that is NONE. */
    private void gather(int land, int sort) {
        sizes.many = 0;
        for (int ring = 0; ring < RINGS_MOST; ring++) {
            int shape = now.bestShape(ring);
            if (shape == NONE || land != NONE && told.ringLand[ring] != land || sort != NONE && shape / TURNS != sort) {
                continue;
            }
            sizes.put(now.bestSize(ring));
        }
    }

    public int odds(int unit, int many) {
        if (!isUnit(unit) || many < 0 || many > now.fittedRings()) {
            return NONE;
        }
        Arrays.fill(row, 0);
        row[0] = PARTS;
        for (int ring = 0; ring < RINGS_MOST; ring++) {
            if (now.isFitted(ring)) {
                spreadRow(nearOnes(ring, unit), placesOf(unit, byHalves));
            }
        }
        long sum = 0;
        for (int k = many; k < row.length; k++) {
            sum += row[k];
        }
        return (int) sum;
    }

    private int nearOnes(int ring, int unit) {
        int shape = now.bestShape(ring);
        int places = placesOf(unit, byHalves);
        if (shape == NONE || places <= 0) {
            return 0;
        }
        int size = now.bestSize(ring);
        int whole = size - size % places;
        int ones = 0;
        for (int rest = 0; rest < places; rest++) {
            if (isNearAs(whole + rest, unit, now.standing[ring], shape / TURNS)) {
                ones++;
            }
        }
        return ones;
    }

    private void spreadRow(long ones, long places) {
        if (places <= 0) {
            return;
        }
        for (int k = row.length - 1; k >= 0; k--) {
            long come = k > 0 ? row[k - 1] * ones / places : 0;
            row[k] = row[k] * (places - ones) / places + come;
        }
    }

    public int chosen(int unit, int what) {
        if (!isUnit(unit) || isBeyond(what, 0, 1)) {
            return NONE;
        }
        int places = placesOf(unit, byHalves);
        int others = 0;
        sizes.many = 0;
        for (int ring = 0; ring < RINGS_MOST; ring++) {
            int shape = now.shapeLeastOff(ring, told.slack, places);
            int at = now.fitAt(ring, shape);
            if (at == NONE) {
                continue;
            }
            sizes.put(now.size[at]);
            if (shape != now.bestShape(ring)) {
                others++;
            }
        }
        return what == 0 ? sizes.sumOfLumps(places) : others;
    }

    public int sort(int sort, int unit, int what) {
        if (isBeyond(sort, 0, SORTS - 1) || !isUnit(unit) || isBeyond(what, 0, 1)) {
            return NONE;
        }
        gather(NONE, sort);
        return what == 0 ? sizes.sumOfLumps(placesOf(unit, byHalves)) : sizes.many;
    }

    public int hump(int unit, int bin) {
        if (!isUnit(unit) || isBeyond(bin, 0, BINS - 1)) {
            return NONE;
        }
        gather(NONE, NONE);
        int many = 0;
        for (int i = 0; i < sizes.many; i++) {
            if (sizes.binOf(i, placesOf(unit, byHalves)) == bin) {
                many++;
            }
        }
        return many;
    }

    public int wander(int unit, int land) {
        if (!isUnit(unit) || isBeyond(land, NONE, told.lands.many - 1)) {
            return NO_SUCH_UNIT_OR_LAND;
        }
        gather(land, NONE);
        int places = placesOf(unit, byHalves);
        int most = 0;
        for (int i = 0; i < sizes.many; i++) {
            int times = timesBy(sizes.size[i], places);
            if (times <= 0) {
                continue;
            }
            int off = offBy(sizes.size[i], places) * (byHalves ? 2 : 1);
            most = Math.max(most, (off + times - 1) / times);
        }
        return most;
    }

    // ---- the best of many units

    public int unit(int a, int b, int c, int what) {
        int many = unitsOf(a, b, c);
        if (many == 0 || many > UNITS_MOST || isBeyond(what, 0, 2)) {
            return NONE;
        }
        if (what == 2) {
            return many;
        }
        gather(NONE, NONE);
        int found = sizes.bestUnit(a, b, c, byHalves);
        return what == 0 ? found : sizes.sumOfLumps(placesOf(found, byHalves));
    }

    public int any(int a, int b, int c, int sway, int seed, int draws) {
        int many = unitsOf(a, b, c);
        if (many == 0 || many > UNITS_MOST_BY_DRAWS || isBeyond(sway, 0, SWAY_MOST) || seed < 0
            || isBeyond(draws, 1, DRAWS_MOST)) {
            return NONE;
        }
        gather(NONE, NONE);
        int least = sizes.lumpsOfBestUnit(a, b, c, byHalves);
        long last = seed;
        int asFew = 0;
        for (int draw = 0; draw < draws; draw++) {
            drawn.many = 0;
            for (int i = 0; i < sizes.many; i++) {
                last = (last * 1103515245L + 12345L) & 0x7fffffffL;
                int swayed = sizes.size[i] + (int) (last / 65536L) % (2 * sway + 1) - sway;
                drawn.put(Math.max(swayed, 0));
            }
            if (drawn.lumpsOfBestUnit(a, b, c, byHalves) <= least) {
                asFew++;
            }
        }
        return asFew;
    }

    public int land(int land, int a, int b, int c) {
        int many = unitsOf(a, b, c);
        if (many == 0 || many > UNITS_MOST || isBeyond(land, 0, told.lands.many - 1)) {
            return NONE;
        }
        gather(land, NONE);
        return sizes.many == 0 ? NONE : sizes.bestUnit(a, b, c, byHalves);
    }

    public int apart(int a, int b, int c) {
        int many = unitsOf(a, b, c);
        if (many == 0 || many > UNITS_MOST) {
            return NONE;
        }
        int least = Integer.MAX_VALUE;
        int greatest = NONE;
        for (int land = 0; land < told.lands.many; land++) {
            gather(land, NONE);
            if (sizes.many > 0) {
                int found = sizes.bestUnit(a, b, c, byHalves);
                least = Math.min(least, found);
                greatest = Math.max(greatest, found);
            }
        }
        return greatest == NONE ? NONE : greatest - least;
    }

    public int ahead(int n, int a, int b, int c, int what) {
        int many = unitsOf(a, b, c);
        if (many == 0 || many > UNITS_MOST || isBeyond(n, 0, notes.many) || isBeyond(what, 0, 2)) {
            return NONE;
        }
        then.learn(told, notes, n, modeNow);
        sizes.many = 0;
        for (int ring = 0; ring < RINGS_MOST; ring++) {
            if (then.isFitted(ring)) {
                sizes.put(sizeThen(ring));
            }
        }
        int unit = sizes.bestUnit(a, b, c, byHalves);
        return what == 0 ? unit : countTapedSince(unit, what == 1);
    }

    /** A ring's size as then told; one whose stones are as now is not fitted a second time. */
    private int sizeThen(int ring) {
        return then.isAs(now, ring) ? now.bestSize(ring) : then.bestSize(ring);
    }

    private int countTapedSince(int unit, boolean nearAlone) {
        int many = 0;
        for (int ring = 0; ring < RINGS_MOST; ring++) {
            if (!now.isFitted(ring) || sizeThen(ring) == now.bestSize(ring)) {
                continue;
            }
            if (!nearAlone || isNearBy(ring, unit)) {
                many++;
            }
        }
        return many;
    }

    // ---- ways and measurers

    public long tells(int way, int unit, int what) {
        if (isBeyond(way, 0, told.ways.many - 1) || !isUnit(unit) || isBeyond(what, 0, 1)) {
            return NONE;
        }
        gather(NONE, NONE);
        int places = placesOf(unit, byHalves);
        long above = told.weightOf(way, sizes, places);
        long below = 0;
        for (int other = 0; other < told.ways.many; other++) {
            below += told.weightOf(other, sizes, places);
        }
        return inLeastTerms(above, below, what == 0);
    }

    public int blind(int unit, int what) {
        if (!isUnit(unit) || isBeyond(what, 0, 3)) {
            return NONE;
        }
        int places = placesOf(unit, byHalves);
        int wanted = what < 2 ? 1 : 0;
        int sum = 0;
        int many = 0;
        for (int saying = 0; saying < told.sayings; saying++) {
            if (told.saidOf(saying, SAYING_BLIND) == wanted) {
                sum += offBy(told.saidOf(saying, SAYING_SIZE), places);
                many++;
            }
        }
        return what % 2 == 0 ? sum : many;
    }

    public int lean(int measurer, int what) {
        if (isBeyond(measurer, 0, told.measurers.many - 1) || isBeyond(what, 0, 1)) {
            return Integer.MIN_VALUE;
        }
        long sum = 0;
        long many = 0;
        for (int saying = 0; saying < told.sayings; saying++) {
            int size = now.bestSize(told.saidOf(saying, SAYING_RING));
            if (told.saidOf(saying, SAYING_WHO) == measurer && size != NONE) {
                sum += told.saidOf(saying, SAYING_SIZE) - size;
                many++;
            }
        }
        return (int) inLeastTerms(sum, many, what == 0);
    }

    public int count(int what) {
        switch (what) {
            case 0:
                return told.lands.many;
            case 1:
                return told.rings.many;
            case 2:
                return told.ways.many;
            case 3:
                return told.sayings;
            case 4:
                return told.measurers.many;
            case 5:
                return notes.many;
            case 6:
                return notesKnown();
            case 7:
                return told.rule.knots;
            case 8:
                return told.grid;
            case 9:
                return told.step;
            case 10:
                return told.slack;
            case 11:
                return modeNow;
            case 12:
                return byHalves ? 1 : 0;
            case 13:
                return now.fittedRings();
            default:
                return NONE;
        }
    }

    // ---- plain numbers

    private static boolean isBeyond(int number, int least, int most) {
        return number < least || number > most;
    }

    private static boolean isUnit(int unit) {
        return unit >= UNIT_LEAST && unit <= UNIT_MOST;
    }

    /** How many units a .. b by c are; 0 if these are none. */
    private static int unitsOf(int a, int b, int c) {
        if (!isUnit(a) || !isUnit(b) || a > b || c < 1 || c > UNIT_MOST) {
            return 0;
        }
        return (b - a) / c + 1;
    }

    private static int placesOf(int unit, boolean halves) {
        return halves ? unit / 2 : unit;
    }

    private static int offBy(int size, int places) {
        if (places <= 0) {
            return 0;
        }
        int rest = size % places;
        return 2 * rest > places ? places - rest : rest;
    }

    private static int timesBy(int size, int places) {
        if (places <= 0) {
            return 0;
        }
        int rest = size % places;
        return 2 * rest > places ? size / places + 1 : size / places;
    }

    private static boolean isShape(int shape) {
        return shape == 0 || shape >= TURNS && shape < SHAPES;
    }

    private static int stoneAt(int ring, int stone) {
        return (ring * STONES_MOST + stone) * STONE_FIELDS;
    }

    private static long inLeastTerms(long above, long below, boolean wantsAbove) {
        if (below == 0) {
            return 0;
        }
        long a = Math.abs(above);
        long b = Math.abs(below);
        for (int i = 0; i < 200 && b != 0; i++) {
            long rest = a % b;
            a = b;
            b = rest;
        }
        long number = wantsAbove ? above : below;
        return a == 0 ? number : number / a;
    }

    /** The greatest number whose square isn't above the value; a guess near it only makes that sooner. */
    private static long rootOf(long value, long guess) {
        if (value <= 0) {
            return 0;
        }
        long root = guess > 0 ? guess : 1;
        root = (root + value / root) / 2;
        // From here on the root is never too small, and each step that still sinks is nearer to it.
        for (int i = 0; i < 200 && root > 0; i++) {
            long nearer = (root + value / root) / 2;
            if (nearer >= root) {
                return root;
            }
            root = nearer;
        }
        return root;
    }

    /** Names of one kind, each as its letters of five bits. */
    private static final class Names {
        final int[] letters;
        int many = 0;

        Names(int most) {
            letters = new int[Math.max(most, 0)];
        }

        boolean isFull() {
            return many >= letters.length;
        }

        int find(int wanted) {
            for (int i = 0; i < many && i < letters.length; i++) {
                if (letters[i] == wanted) {
                    return i;
                }
            }
            return NONE;
        }

        /** The new name's number. */
        int put(int name) {
            if (isFull()) {
                return NONE;
            }
            letters[many] = name;
            many++;
            return many - 1;
        }
    }

    /** What a text tells. */
    private static final class Survey {
        final Names lands = new Names(LANDS_MOST);
        final Names rings = new Names(RINGS_MOST);
        final Names ways = new Names(WAYS_MOST);
        final Names measurers = new Names(MEASURERS_MOST);
        final int[] ringLand = new int[RINGS_MOST];
        final int[] stones = new int[RINGS_MOST];
        final int[] stone = new int[RINGS_MOST * STONES_MOST * STONE_FIELDS];
        final int[] way = new int[WAYS_MOST * WAY_FIELDS];
        final int[] saying = new int[SAYINGS_MOST * SAYING_FIELDS];
        int sayings = 0;
        final Rule rule = new Rule();
        boolean hasRule = false;
        boolean hasGrid = false;
        boolean hasSlack = false;
        int grid = GRID_UNTOLD;
        int step = STEP_UNTOLD;
        int slack = SLACK_UNTOLD;

        void clear() {
            lands.many = 0;
            rings.many = 0;
            ways.many = 0;
            measurers.many = 0;
            sayings = 0;
            rule.knots = 0;
            hasRule = false;
            hasGrid = false;
            hasSlack = false;
            grid = GRID_UNTOLD;
            step = STEP_UNTOLD;
            slack = SLACK_UNTOLD;
            Arrays.fill(stones, 0);
        }

        boolean hasRing(int ring) {
            return ring >= 0 && ring < rings.many && ring < RINGS_MOST;
        }

        boolean hasStone(int ring, int number) {
            return hasRing(ring) && number >= 0 && number < stones[ring] && number < STONES_MOST;
        }

        int saidOf(int number, int field) {
            int at = number * SAYING_FIELDS + field;
            return at >= 0 && at < saying.length ? saying[at] : 0;
        }

        /** A way's weight times its number in the bin of each size. */
        long weightOf(int number, Sizes sizes, int places) {
            int at = number * WAY_FIELDS;
            if (at < 0 || at + WAY_FIELDS > way.length) {
                return 0;
            }
            long product = way[at];
            for (int i = 0; i < sizes.many; i++) {
                product *= way[at + 1 + sizes.binOf(i, places)];
            }
            return product;
        }
    }

    /** The rule of what counts as near, its knots in the order in which they are worked out. */
    private static final class Rule {
        final int[] sign = new int[KNOTS_MOST];
        final int[] number = new int[KNOTS_MOST];
        final long[] values = new long[KNOTS_MOST];
        final long[] named = new long[SORT - OFF + 1];
        int knots = 0;

        void put(int kind, int value) {
            if (knots < KNOTS_MOST) {
                sign[knots] = kind;
                number[knots] = value;
                knots++;
            }
        }

        boolean holds(int off, int unit, int size, int times, int stones, int sort) {
            named[OFF - OFF] = off;
            named[UNIT - OFF] = unit;
            named[SIZE - OFF] = size;
            named[TIMES - OFF] = times;
            named[STONES - OFF] = stones;
            named[SORT - OFF] = sort;
            int depth = 0;
            for (int i = 0; i < knots && i < KNOTS_MOST; i++) {
                int kind = sign[i];
                if (isOperand(kind)) {
                    if (depth >= KNOTS_MOST) {
                        return false;
                    }
                    values[depth] = kind == NUMBER ? number[i] : named[kind - OFF];
                    depth++;
                } else if (kind == NOT) {
                    if (depth < 1) {
                        return false;
                    }
                    values[depth - 1] = values[depth - 1] == 0 ? 1 : 0;
                } else {
                    if (depth < 2 || isError(kind, values[depth - 2], values[depth - 1])) {
                        return false;
                    }
                    values[depth - 2] = join(kind, values[depth - 2], values[depth - 1]);
                    depth--;
                }
            }
            return depth == 1 && values[0] != 0;
        }

        static boolean isOperand(int kind) {
            return kind == NUMBER || kind >= OFF && kind <= SORT;
        }

        static boolean isError(int kind, long a, long b) {
            switch (kind) {
                case PLUS:
                    return Math.abs(a + b) > VALUE_MOST;
                case MINUS:
                    return Math.abs(a - b) > VALUE_MOST;
                case STAR:
                    // The product itself might wrap around, so the limit is divided instead.
                    return a != 0 && Math.abs(b) > VALUE_MOST / Math.abs(a);
                case SLASH:
                    return b == 0;
                default:
                    return false;
            }
        }

        static long join(int kind, long a, long b) {
            switch (kind) {
                case PLUS:
                    return a + b;
                case MINUS:
                    return a - b;
                case STAR:
                    return a * b;
                case SLASH:
                    return b == 0 ? 0 : a / b;
                case BELOW:
                    return a < b ? 1 : 0;
                case AT_MOST:
                    return a <= b ? 1 : 0;
                case EQUAL:
                    return a == b ? 1 : 0;
                case UNLIKE:
                    return a != b ? 1 : 0;
                case AT_LEAST:
                    return a >= b ? 1 : 0;
                case ABOVE:
                    return a > b ? 1 : 0;
                case AND:
                    return a != 0 && b != 0 ? 1 : 0;
                case OR:
                    return a != 0 || b != 0 ? 1 : 0;
                default:
                    return 0;
            }
        }
    }

    /** Tokens of a text, one at a time. */
    private static final class Lexer {
        final int[] words = lettersOfLanguage();
        char[] bytes = new char[0];
        int length = 0;
        int at = 0;
        int kind = END;
        int place = 0;
        /* A number's value, or a word's letters. */
        int value = 0;

        static int[] lettersOfLanguage() {
            int[] found = new int[WORD_MANY];
            int word = 0;
            int shift = 25;
            for (int i = 0; i < LANGUAGE.length() && word < WORD_MANY; i++) {
                char sign = LANGUAGE.charAt(i);
                if (sign == ' ') {
                    word++;
                    shift = 25;
                } else {
                    found[word] |= (sign - 'a' + 1) << shift;
                    shift -= 5;
                }
            }
            return found;
        }

        void begin(char[] source, int many) {
            bytes = source;
            length = Math.min(many, source.length);
            at = 0;
            advance();
        }

        void advance() {
            while (at < length && (bytes[at] == ' ' || bytes[at] == '\n')) {
                at++;
            }
            place = at;
            value = 0;
            if (at >= length) {
                kind = END;
                return;
            }
            char sign = bytes[at];
            if (sign >= 'a' && sign <= 'z') {
                takeWord();
            } else if (sign >= '0' && sign <= '9') {
                takeNumber();
            } else {
                at++;
                takeSign(sign);
            }
        }

        private void takeWord() {
            int letters = 0;
            int many = 0;
            for (; at < length && bytes[at] >= 'a' && bytes[at] <= 'z'; at++) {
                if (many < LETTERS_MOST) {
                    letters |= (bytes[at] - 'a' + 1) << (25 - 5 * many);
                }
                many++;
            }
            value = letters;
            kind = many > LETTERS_MOST ? BAD : NAME;
            for (int i = 0; i < words.length && kind == NAME; i++) {
                if (words[i] == letters) {
                    kind = WORDS + i;
                }
            }
        }

        private void takeNumber() {
            kind = NUMBER;
            for (; at < length && bytes[at] >= '0' && bytes[at] <= '9'; at++) {
                // All that is above every limit is alike, and so long numbers don't wrap around.
                value = value * 10 + (bytes[at] - '0');
                if (value > SIZE_MOST) {
                    value = SIZE_MOST;
                }
            }
        }

        private void takeSign(char sign) {
            char behind = at < length ? bytes[at] : ' ';
            switch (sign) {
                case ';':
                    kind = SEMICOLON;
                    break;
                case '(':
                    kind = OPEN;
                    break;
                case ')':
                    kind = CLOSE;
                    break;
                case '+':
                    kind = PLUS;
                    break;
                case '-':
                    kind = MINUS;
                    break;
                case '*':
                    kind = STAR;
                    break;
                case '/':
                    kind = SLASH;
                    break;
                case '=':
                    kind = EQUAL;
                    break;
                case '<':
                    kind = behind == '=' ? AT_MOST : behind == '>' ? UNLIKE : BELOW;
                    break;
                case '>':
                    kind = behind == '=' ? AT_LEAST : ABOVE;
                    break;
                default:
                    kind = BAD;
                    break;
            }
            if (kind == AT_MOST || kind == UNLIKE || kind == AT_LEAST) {
                at++;
            }
        }
    }

    /** Reads a rule without recursion: signs wait until those that bind more tightly are put. */
    private static final class RuleReader {
        final int[] waiting = new int[KNOTS_MOST + OPEN_MOST];
        int depth = 0;
        int open = 0;
        int knots = 0;
        boolean wantsOperand = true;
        boolean ended = false;

        /** The fault at the lexer's token, or 0. */
        int read(Lexer lexer, Rule rule) {
            rule.knots = 0;
            depth = 0;
            open = 0;
            knots = 0;
            wantsOperand = true;
            ended = false;
            for (int i = 0; i <= TAPE_MOST && !ended; i++) {
                int fault = wantsOperand ? takeOperand(lexer, rule) : takeSign(lexer.kind, rule);
                if (fault != 0) {
                    return fault;
                }
                if (!ended) {
                    lexer.advance();
                }
            }
            return 0;
        }

        private int takeOperand(Lexer lexer, Rule rule) {
            int kind = lexer.kind;
            if (kind == OPEN) {
                if (open >= OPEN_MOST) {
                    return FAULT_TOO_MUCH;
                }
                open++;
                push(kind);
                return 0;
            }
            // Behind a comparison or a sum only an operand can stand, not what binds less tightly.
            boolean negates = kind == NOT && (depth == 0 || rankOf(waiting[depth - 1]) <= RANK_NOT);
            if (!negates && !Rule.isOperand(kind)) {
                return FAULT_TOKEN;
            }
            if (knots >= KNOTS_MOST || kind == NUMBER && lexer.value > RULE_NUMBER_MOST) {
                return FAULT_TOO_MUCH;
            }
            knots++;
            if (negates) {
                push(kind);
            } else {
                rule.put(kind, lexer.value);
                wantsOperand = false;
            }
            return 0;
        }

        private int takeSign(int kind, Rule rule) {
            if (kind == CLOSE && open > 0) {
                settle(RANK_OR, rule);
                depth = Math.max(depth - 1, 0);
                open--;
                return 0;
            }
            int rank = kind == NOT ? RANK_NONE : rankOf(kind);
            if (rank == RANK_NONE) {
                settle(RANK_OR, rule);
                ended = open == 0;
                return ended ? 0 : FAULT_TOKEN;
            }
            if (rank == RANK_COMPARES) {
                // One comparison can't stand right behind another: its grammar has no chain.
                settle(RANK_SUM, rule);
                if (depth > 0 && rankOf(waiting[depth - 1]) == RANK_COMPARES) {
                    return FAULT_TOKEN;
                }
            }
            if (knots >= KNOTS_MOST) {
                return FAULT_TOO_MUCH;
            }
            knots++;
            settle(rank, rule);
            push(kind);
            wantsOperand = true;
            return 0;
        }

        private void push(int kind) {
            if (depth < waiting.length) {
                waiting[depth] = kind;
                depth++;
            }
        }

        private void settle(int rank, Rule rule) {
            while (depth > 0 && rankOf(waiting[depth - 1]) >= rank) {
                depth--;
                rule.put(waiting[depth], 0);
            }
        }

        private static int rankOf(int kind) {
            switch (kind) {
                case OR:
                    return RANK_OR;
                case AND:
                    return RANK_AND;
                case NOT:
                    return RANK_NOT;
                case BELOW:
                case AT_MOST:
                case EQUAL:
                case UNLIKE:
                case AT_LEAST:
                case ABOVE:
                    return RANK_COMPARES;
                case PLUS:
                case MINUS:
                    return RANK_SUM;
                case STAR:
                case SLASH:
                    return RANK_PRODUCT;
                default:
                    return RANK_NONE;
            }
        }
    }

    /** Reads a text into a survey, up to its first fault. */
    private static final class Reader {
        final Lexer lexer = new Lexer();
        final RuleReader ruleReader = new RuleReader();
        int fault = 0;
        int place = NONE;
        int lines = 0;
        /* What the latest name or number was. */
        int found = 0;

        boolean read(char[] bytes, int length, Survey survey) {
            fault = 0;
            place = NONE;
            lines = 0;
            survey.clear();
            lexer.begin(bytes, length);
            for (int i = 0; i <= length && lexer.kind != END; i++) {
                if (!readLine(survey)) {
                    return false;
                }
                if (lexer.kind != SEMICOLON) {
                    return refuse(FAULT_TOKEN);
                }
                lexer.advance();
                lines++;
            }
            return true;
        }

        private boolean refuse(int why) {
            fault = why;
            place = lexer.place;
            return false;
        }

        private boolean readLine(Survey survey) {
            switch (lexer.kind) {
                case LAND:
                    return readHead(survey.lands);
                case RING:
                    return readRing(survey);
                case WAY:
                    return readWay(survey);
                case NEAR:
                    return readRule(survey);
                case SAID:
                    return readSaying(survey);
                case GRID:
                    return readGrid(survey);
                case SLACK:
                    return readSlack(survey);
                default:
                    return refuse(FAULT_TOKEN);
            }
        }

        /** A line's word and the new name behind it. */
        private boolean readHead(Names names) {
            if (names.isFull()) {
                return refuse(FAULT_TOO_MUCH);
            }
            lexer.advance();
            if (lexer.kind != NAME) {
                return refuse(FAULT_TOKEN);
            }
            if (names.find(lexer.value) != NONE) {
                return refuse(FAULT_TOLD);
            }
            found = names.put(lexer.value);
            lexer.advance();
            return true;
        }

        private boolean readToldName(Names names) {
            if (lexer.kind != NAME) {
                return refuse(FAULT_TOKEN);
            }
            found = names.find(lexer.value);
            if (found == NONE) {
                return refuse(FAULT_UNTOLD);
            }
            lexer.advance();
            return true;
        }

        /** A number; it may have a sign before it if the least one is below 0. */
        private boolean readNumber(int least, int most) {
            boolean negative = least < 0 && lexer.kind == MINUS;
            if (negative) {
                lexer.advance();
            }
            if (lexer.kind != NUMBER) {
                return refuse(FAULT_TOKEN);
            }
            found = negative ? -lexer.value : lexer.value;
            if (isBeyond(found, least, most)) {
                return refuse(FAULT_TOO_MUCH);
            }
            lexer.advance();
            return true;
        }

        private boolean readRing(Survey survey) {
            if (!readHead(survey.rings)) {
                return false;
            }
            int ring = found;
            if (!readToldName(survey.lands) || !survey.hasRing(ring)) {
                return false;
            }
            survey.ringLand[ring] = found;
            for (int number = 0; number <= STONES_MOST && lexer.kind == STONE; number++) {
                if (number == STONES_MOST) {
                    return refuse(FAULT_TOO_MUCH);
                }
                lexer.advance();
                if (!readStone(survey.stone, stoneAt(ring, number))) {
                    return false;
                }
                survey.stones[ring] = number + 1;
            }
            return true;
        }

        private boolean readStone(int[] stone, int at) {
            if (at < 0 || at + STONE_FIELDS > stone.length) {
                return false;
            }
            for (int i = 0; i < STONE_FIELDS; i++) {
                stone[at + i] = 0;
            }
            for (int field = STONE_X; field <= STONE_Y; field++) {
                if (!readNumber(-PLACE_MOST, PLACE_MOST)) {
                    return false;
                }
                stone[at + field] = found;
            }
            boolean leans = lexer.kind == LEAN;
            if (leans) {
                lexer.advance();
            }
            for (int field = STONE_LEAN_X; leans && field <= STONE_LEAN_Y; field++) {
                if (!readNumber(-LEAN_MOST, LEAN_MOST)) {
                    return false;
                }
                stone[at + field] = found;
            }
            if (lexer.kind == AGAIN) {
                stone[at + STONE_AGAIN] = 1;
                lexer.advance();
            }
            if (lexer.kind == GONE) {
                stone[at + STONE_GONE] = 1;
                lexer.advance();
            }
            return true;
        }

        private boolean readWay(Survey survey) {
            if (!readHead(survey.ways)) {
                return false;
            }
            int at = found * WAY_FIELDS;
            if (at < 0 || at + WAY_FIELDS > survey.way.length) {
                return false;
            }
            for (int i = 0; i < WAY_FIELDS; i++) {
                if (!readNumber(i == 0 ? 1 : 0, 99)) {
                    return false;
                }
                survey.way[at + i] = found;
            }
            return true;
        }

        private boolean readRule(Survey survey) {
            if (survey.hasRule) {
                return refuse(FAULT_TOLD);
            }
            lexer.advance();
            int why = ruleReader.read(lexer, survey.rule);
            if (why != 0) {
                return refuse(why);
            }
            survey.hasRule = true;
            return true;
        }

        private boolean readSaying(Survey survey) {
            int at = survey.sayings * SAYING_FIELDS;
            if (at < 0 || at + SAYING_FIELDS > survey.saying.length) {
                return refuse(FAULT_TOO_MUCH);
            }
            lexer.advance();
            if (!readMeasurer(survey.measurers)) {
                return false;
            }
            survey.saying[at + SAYING_WHO] = found;
            if (!readToldName(survey.rings)) {
                return false;
            }
            survey.saying[at + SAYING_RING] = found;
            if (!readNumber(1, SAID_MOST)) {
                return false;
            }
            survey.saying[at + SAYING_SIZE] = found;
            survey.saying[at + SAYING_BLIND] = lexer.kind == BLIND ? 1 : 0;
            if (lexer.kind == BLIND) {
                lexer.advance();
            }
            survey.sayings++;
            return true;
        }

        private boolean readMeasurer(Names measurers) {
            if (lexer.kind != NAME) {
                return refuse(FAULT_TOKEN);
            }
            found = measurers.find(lexer.value);
            if (found == NONE) {
                if (measurers.isFull()) {
                    return refuse(FAULT_TOO_MUCH);
                }
                found = measurers.put(lexer.value);
            }
            lexer.advance();
            return true;
        }

        private boolean readGrid(Survey survey) {
            if (survey.hasGrid) {
                return refuse(FAULT_TOLD);
            }
            survey.hasGrid = true;
            lexer.advance();
            if (!readNumber(0, GRID_MOST)) {
                return false;
            }
            survey.grid = found;
            if (!readNumber(1, STEP_MOST)) {
                return false;
            }
            survey.step = found;
            return true;
        }

        private boolean readSlack(Survey survey) {
            if (survey.hasSlack) {
                return refuse(FAULT_TOLD);
            }
            survey.hasSlack = true;
            lexer.advance();
            if (!readNumber(0, SLACK_MOST)) {
                return false;
            }
            survey.slack = found;
            return true;
        }
    }

    /** Notes in the order in which they came. */
    private static final class Notes {
        final int[] kind = new int[NOTES_MOST];
        /* The stone's place in the row of stones, or the note that is struck. */
        final int[] where = new int[NOTES_MOST];
        final int[] first = new int[NOTES_MOST];
        final int[] second = new int[NOTES_MOST];
        final int[] struck = new int[NOTES_MOST];
        int many = 0;

        int put(int sort, int place, int a, int b) {
            if (many >= NOTES_MOST) {
                return NONE;
            }
            kind[many] = sort;
            where[many] = place;
            first[many] = a;
            second[many] = b;
            many++;
            return many - 1;
        }

        /** Brings stones as the text told them to what they are by the first n notes. */
        void bring(int[] stone, int n) {
            int end = Math.min(n, many);
            findStruck(end);
            for (int i = 0; i < end; i++) {
                int at = where[i];
                if (struck[i] != 0 || kind[i] == NOTE_STRIKE || at < 0 || at + STONE_FIELDS > stone.length) {
                    continue;
                }
                if (kind[i] == NOTE_TAPED) {
                    stone[at + STONE_X] = first[i];
                    stone[at + STONE_Y] = second[i];
                } else if (kind[i] == NOTE_GONE) {
                    stone[at + STONE_GONE] = first[i];
                }
            }
        }

        /** From the last note on, for a strike counts only if no later one strikes it. */
        private void findStruck(int end) {
            Arrays.fill(struck, 0);
            for (int i = end - 1; i >= 0; i--) {
                int at = where[i];
                if (kind[i] == NOTE_STRIKE && struck[i] == 0 && at >= 0 && at < NOTES_MOST) {
                    struck[at] = 1;
                }
            }
        }
    }

    /** The stones as known by some notes, and the fits of their rings; fits are worked out once for the same places. */
    private static final class Fits {
        final int[] stone = new int[RINGS_MOST * STONES_MOST * STONE_FIELDS];
        final int[] standing = new int[RINGS_MOST];
        final int[] standX = new int[RINGS_MOST * STONES_MOST];
        final int[] standY = new int[RINGS_MOST * STONES_MOST];
        /* 1 for a ring whose fits stand in the rows below. */
        final int[] done = new int[RINGS_MOST];
        final int[] best = new int[RINGS_MOST];
        final int[] size = new int[RINGS_MOST * SHAPES];
        final int[] misfit = new int[RINGS_MOST * SHAPES];
        final int[] middleX = new int[RINGS_MOST * SHAPES];
        final int[] middleY = new int[RINGS_MOST * SHAPES];
        /* How far each stone is from the latest middle, by each shape. */
        final long[] away = new long[SHAPES * STONES_MOST];
        int grid = GRID_UNTOLD;
        int step = STEP_UNTOLD;

        void learn(Survey survey, Notes notes, int n, int mode) {
            if (grid != survey.grid || step != survey.step) {
                grid = survey.grid;
                step = survey.step;
                Arrays.fill(done, 0);
            }
            System.arraycopy(survey.stone, 0, stone, 0, stone.length);
            notes.bring(stone, n);
            for (int ring = 0; ring < RINGS_MOST; ring++) {
                setUp(ring, survey.hasRing(ring) ? survey.stones[ring] : 0, mode);
            }
        }

        /** Places of the stones that stand; fits of other places than before are forgotten. */
        private void setUp(int ring, int stones, int mode) {
            boolean inner = (mode & 2) != 0;
            boolean changed = false;
            int many = 0;
            for (int number = 0; number < stones && number < STONES_MOST; number++) {
                int at = stoneAt(ring, number);
                if (stone[at + STONE_GONE] != 0 || (mode & 1) != 0 && stone[at + STONE_AGAIN] != 0) {
                    continue;
                }
                int x = stone[at + STONE_X] + (inner ? stone[at + STONE_LEAN_X] : 0);
                int y = stone[at + STONE_Y] + (inner ? stone[at + STONE_LEAN_Y] : 0);
                int into = ring * STONES_MOST + many;
                changed |= standX[into] != x || standY[into] != y;
                standX[into] = x;
                standY[into] = y;
                many++;
            }
            if (changed || many != standing[ring]) {
                done[ring] = 0;
            }
            standing[ring] = many;
        }

        boolean isAs(Fits other, int ring) {
            if (standing[ring] != other.standing[ring]) {
                return false;
            }
            for (int i = 0; i < standing[ring] && i < STONES_MOST; i++) {
                int at = ring * STONES_MOST + i;
                if (standX[at] != other.standX[at] || standY[at] != other.standY[at]) {
                    return false;
                }
            }
            return true;
        }

        boolean isFitted(int ring) {
            return ring >= 0 && ring < RINGS_MOST && standing[ring] >= STONES_FOR_FIT;
        }

        int fittedRings() {
            int many = 0;
            for (int ring = 0; ring < RINGS_MOST; ring++) {
                if (isFitted(ring)) {
                    many++;
                }
            }
            return many;
        }

        /** Where the rows have the fit of a ring by a shape; NONE without one. */
        int fitAt(int ring, int shape) {
            if (!isFitted(ring) || !isShape(shape)) {
                return NONE;
            }
            workOut(ring);
            return ring * SHAPES + shape;
        }

        int bestShape(int ring) {
            if (!isFitted(ring)) {
                return NONE;
            }
            workOut(ring);
            return best[ring];
        }

        int bestSize(int ring) {
            if (!isFitted(ring)) {
                return NONE;
            }
            workOut(ring);
            return size[ring * SHAPES + best[ring]];
        }

        /** Bits of the shapes that fit as well as the best one but for the slack. */
        int shapesAsWell(int ring, int slack) {
            int shapes = 0;
            int bestAt = fitAt(ring, bestShape(ring));
            for (int shape = 0; shape < SHAPES && bestAt != NONE; shape++) {
                if (isShape(shape) && misfit[ring * SHAPES + shape] <= misfit[bestAt] + slack) {
                    shapes |= 1 << shape;
                }
            }
            return shapes;
        }

        int edgeOfSpan(int ring, int slack, boolean greatest) {
            int shapes = shapesAsWell(ring, slack);
            int edge = NONE;
            for (int shape = 0; shape < SHAPES; shape++) {
                if ((shapes >> shape & 1) == 0) {
                    continue;
                }
                int wide = size[ring * SHAPES + shape];
                if (edge == NONE || (greatest ? wide > edge : wide < edge)) {
                    edge = wide;
                }
            }
            return edge;
        }

        /** Of the shapes that fit as well the one whose size is nearest to whole. */
        int shapeLeastOff(int ring, int slack, int places) {
            int shapes = shapesAsWell(ring, slack);
            int found = NONE;
            int least = 0;
            for (int shape = 0; shape < SHAPES; shape++) {
                if ((shapes >> shape & 1) == 0) {
                    continue;
                }
                int off = offBy(size[ring * SHAPES + shape], places);
                if (found == NONE || off < least) {
                    found = shape;
                    least = off;
                }
            }
            return found;
        }

        /** All fits of a ring at once, for most stones are as far away by one shape as by another. */
        private void workOut(int ring) {
            if (done[ring] != 0) {
                return;
            }
            done[ring] = 1;
            for (int shape = 0; shape < SHAPES; shape++) {
                misfit[ring * SHAPES + shape] = Integer.MAX_VALUE;
            }
            int meanX = meanOf(standX, ring);
            int meanY = meanOf(standY, ring);
            for (int i = -grid; i <= grid; i++) {
                for (int k = -grid; k <= grid; k++) {
                    for (int shape = 0; shape < SHAPES; shape++) {
                        tryMiddle(ring, shape, meanX + i * step, meanY + k * step);
                    }
                }
            }
            best[ring] = 0;
            for (int shape = TURNS; shape < SHAPES; shape++) {
                if (misfit[ring * SHAPES + shape] < misfit[ring * SHAPES + best[ring]]) {
                    best[ring] = shape;
                }
            }
        }

        private int meanOf(int[] places, int ring) {
            int many = standing[ring];
            int sum = 0;
            for (int i = 0; i < many && i < STONES_MOST; i++) {
                sum += places[ring * STONES_MOST + i];
            }
            return many > 0 ? Math.floorDiv(sum, many) : 0;
        }

        /** Keeps a middle if it fits better than those before; the round shape must be tried first at each. */
        private void tryMiddle(int ring, int shape, int x, int y) {
            int many = Math.min(standing[ring], STONES_MOST);
            if (many <= 0 || !isShape(shape)) {
                return;
            }
            long sum = 0;
            for (int i = 0; i < many; i++) {
                int stand = ring * STONES_MOST + i;
                away[shape * STONES_MOST + i] = awayBy(i, shape, standX[stand] - x, standY[stand] - y);
                sum += away[shape * STONES_MOST + i];
            }
            int radius = (int) (sum / many);
            int strayed = 0;
            for (int i = 0; i < many; i++) {
                strayed += (int) Math.abs(away[shape * STONES_MOST + i] - radius);
            }
            int at = ring * SHAPES + shape;
            if (strayed < misfit[at]) {
                misfit[at] = strayed;
                size[at] = 2 * radius;
                middleX[at] = x;
                middleY[at] = y;
            }
        }

        private long awayBy(int number, int shape, int a, int b) {
            boolean flattens = shape / TURNS == FLATTENED;
            int turn = shape % TURNS;
            int longA = a;
            int longB = b;
            if (shape != 0) {
                if (turn == EAST && a > 0 || turn == WEST && a < 0) {
                    longA = flattens ? a * 4 / 3 : a * 3 / 4;
                } else if (turn == NORTH && b > 0 || turn == SOUTH && b < 0) {
                    longB = flattens ? b * 4 / 3 : b * 3 / 4;
                } else {
                    return away[number];
                }
            }
            // The middle before was beside this one, so what was away from it is a good guess.
            return rootOf(10000L * (longA * longA + longB * longB), away[shape * STONES_MOST + number]);
        }
    }

    /** Sizes of some rings, and how near whole they are together. */
    private static final class Sizes {
        final int[] size = new int[RINGS_MOST];
        int many = 0;

        void put(int wide) {
            if (many < RINGS_MOST) {
                size[many] = wide;
                many++;
            }
        }

        int binOf(int number, int places) {
            if (number < 0 || number >= RINGS_MOST || places <= 0) {
                return 0;
            }
            return Math.min(12 * offBy(size[number], places) / places, BINS - 1);
        }

        int sumOfLumps(int places) {
            int sum = 0;
            for (int i = 0; i < many && places > 0; i++) {
                sum += 4000 * offBy(size[i], places) / places;
            }
            return sum;
        }

        int bestUnit(int a, int b, int c, boolean halves) {
            int found = a;
            int least = Integer.MAX_VALUE;
            int units = unitsOf(a, b, c);
            for (int i = 0; i < units; i++) {
                int unit = a + i * c;
                int sum = sumOfLumps(placesOf(unit, halves));
                if (sum < least) {
                    least = sum;
                    found = unit;
                }
            }
            return found;
        }

        int lumpsOfBestUnit(int a, int b, int c, boolean halves) {
            return sumOfLumps(placesOf(bestUnit(a, b, c, halves), halves));
        }
    }
}
