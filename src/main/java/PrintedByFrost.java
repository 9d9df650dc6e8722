/**
 * Panes that freeze in the pattern of the letters hung behind them: what they are read as, hour by
 * hour, in thought and in truth. The numbered promises are those of the document.
 */
public final class PrintedByFrost {
    public static final int NONE = -1;

    private static final int NOBODY = -1;
    private static final int OTHER = -2;
    private static final int NOTHING = -3;
    private static final int BELOW = -4;
    private static final int BEYOND = -5;
    private static final int WRONG = -6;
    private static final int TOO_MUCH = -7;

    /** Answers of calls to which -1 or -6 could be an ordinary answer. */
    private static final int NOBODY_TOLD = -11;
    private static final int WRONG_TOLD = -16;

    private static final int SHELVES = 8;
    private static final int LETTERS = 8;
    private static final int PANES = 8;
    private static final int CELLS = 16;
    private static final int SIDE = 4;
    private static final int ALL_CELLS = 65535;
    private static final int LAST_HOUR = 24;
    private static final int MOST_COLD = 40;
    private static final int MOST_WET = 9;
    private static final int MOST_OUT = 9;
    private static final int MOST_ROOM = 9;
    private static final int MOST_A = 9;
    private static final int MOST_NIGHTS = 40;
    private static final int WITH_NOTHING = 256;

    private static final int PLAIN = 0;
    private static final int NORTH = 1;
    private static final int THICK = 2;
    private static final int STOVED = 3;
    private static final int SUNNY = 4;
    private static final int LACE = 5;
    private static final int SMOKED = 6;

    private final Street street;
    private final Street imaged;
    private final Street draft;
    private final Thought thought;
    private final Shelf[] shelves;
    private final Reader reader;
    private final Acts acts;
    private final int[] refusals;
    private boolean hasImage;

    public PrintedByFrost() {
        street = new Street();
        imaged = new Street();
        draft = new Street();
        thought = new Thought(street);
        shelves = new Shelf[SHELVES];
        for (int i = 0; i < shelves.length; i++) {
            shelves[i] = new Shelf();
        }
        reader = new Reader();
        acts = new Acts();
        refusals = new int[1 - TOO_MUCH];
        hasImage = false;
    }

    // ---- shelves

    public int row(int s, int sort, int n) {
        Shelf shelf = shelfAt(s);
        if (shelf == null) {
            return refuse(NOBODY);
        }
        if (n < 0) {
            return refuse(BELOW);
        }
        if (sort < Shelf.BYTES || sort > Shelf.LONGS) {
            return refuse(WRONG);
        }
        if (n > Shelf.MOST_ELEMENTS) {
            return refuse(TOO_MUCH);
        }
        shelf.takeRow(sort, n);
        return 1;
    }

    public int set(int s, int i, long v) {
        Shelf shelf = shelfAt(s);
        if (shelf == null || !shelf.hasRow()) {
            return refuse(lackOfRow(shelf));
        }
        if (i < 0 || i >= shelf.size) {
            return refuse(BEYOND);
        }
        shelf.put(i, v);
        return 1;
    }

    public int copy(int p, int q, int i, int j, int n) {
        Shelf from = shelfAt(p);
        Shelf to = shelfAt(q);
        if (from == null || to == null) {
            return refuse(NOBODY);
        }
        if (from.hasPane() || to.hasPane()) {
            return refuse(OTHER);
        }
        boolean both = from.hasRow() && to.hasRow();
        if (both && from.sort != to.sort) {
            return refuse(OTHER);
        }
        if (!both) {
            return refuse(NOTHING);
        }
        if (n < 0) {
            return refuse(BELOW);
        }
        if (i < 0 || j < 0 || i > from.size - n || j > to.size - n) {
            return refuse(BEYOND);
        }
        to.putAll(from, i, j, n);
        return 1;
    }

    public long element(int s, int i) {
        Shelf shelf = shelfAt(s);
        return shelf == null ? 0 : shelf.elementAt(i);
    }

    public int show(int s, int pane) {
        Shelf shelf = shelfAt(s);
        if (shelf == null || pane != NONE && street.paneAt(pane) == null) {
            return refuse(NOBODY);
        }
        if (pane == NONE) {
            shelf.takeNothing();
            return 0;
        }
        shelf.takePane(pane);
        return 1;
    }

    public int holds(int s) {
        Shelf shelf = shelfAt(s);
        return shelf == null ? NONE : shelf.told();
    }

    public int says(int s, int kind) {
        Shelf shelf = shelfAt(s);
        if (shelf == null || !Pane.isKind(kind)) {
            return refuse(NOBODY);
        }
        if (shelf.hasRow()) {
            return refuse(OTHER);
        }
        Pane pane = street.paneAt(shelf.paneNumber);
        if (!shelf.hasPane() || pane == null) {
            return refuse(NOTHING);
        }
        if (!pane.isOf(kind)) {
            return refuse(OTHER);
        }
        return saidAs(pane, kind);
    }

    private int saidAs(Pane pane, int kind) {
        switch (kind) {
            case NORTH:
                return pane.a;
            case THICK:
                return pane.countedCold(street.cold);
            case STOVED:
            case SMOKED:
                return pane.room;
            case SUNNY:
                return pane.melting(LAST_HOUR - 1, street.out);
            case LACE:
                return pane.laceRow();
            default:
                return pane.sharpness(street.cold, street.wet);
        }
    }

    private Shelf shelfAt(int s) {
        return s >= 0 && s < shelves.length ? shelves[s] : null;
    }

    /** The refusal of a shelf that has no row, though one is wanted. */
    private static int lackOfRow(Shelf shelf) {
        if (shelf == null) {
            return NOBODY;
        }
        return shelf.hasPane() ? OTHER : NOTHING;
    }

    // ---- refusals

    private int refuse(int number) {
        int kind = -number;
        if (kind >= 0 && kind < refusals.length) {
            refusals[kind]++;
        }
        return number;
    }

    private int refuseNobody() {
        refuse(NOBODY);
        return NOBODY_TOLD;
    }

    private int refuseWrong() {
        refuse(WRONG);
        return WRONG_TOLD;
    }

    private static boolean isHour(int h) {
        return h >= 0 && h <= LAST_HOUR;
    }

    private static boolean isCell(int cell) {
        return cell >= 0 && cell < CELLS;
    }

    private static boolean isShape(int shape) {
        return shape >= 0 && shape <= ALL_CELLS;
    }

    // ---- the street

    public int form(int cells) {
        if (!isShape(cells)) {
            return refuse(WRONG);
        }
        if (!street.hasLetterRoom()) {
            return refuse(TOO_MUCH);
        }
        return street.addLetter(cells);
    }

    public int formOf(int letter) {
        if (!street.isLetter(letter)) {
            return refuse(NOBODY);
        }
        return street.cellsOf(letter);
    }

    public int pane(int kind, int room, int a) {
        if (!Pane.isKind(kind)) {
            return refuse(NOBODY);
        }
        if (room < 0 || room > MOST_ROOM || a < 0 || a > MOST_A) {
            return refuse(WRONG);
        }
        if (!street.hasPaneRoom()) {
            return refuse(TOO_MUCH);
        }
        return street.addPane(kind, room, a);
    }

    public int paneOf(int pane, int what) {
        Pane one = street.paneAt(pane);
        if (one == null) {
            return refuse(BEYOND);
        }
        switch (what) {
            case 0:
                return one.kind;
            case 1:
                return one.room;
            case 2:
                return one.a;
            case 3:
                return one.sharpness(street.cold, street.wet);
            case 4:
                return one.scratched;
            default:
                return refuse(BEYOND);
        }
    }

    public int hang(int pane, int letter) {
        Pane one = street.paneAt(pane);
        if (one == null || !street.isLetterOrNone(letter)) {
            return refuse(NOBODY);
        }
        one.hung = letter;
        return letter == NONE ? 0 : 1;
    }

    public int hangs(int pane) {
        Pane one = street.paneAt(pane);
        return one == null ? refuseNobody() : one.hung;
    }

    public int ask(int what, int v) {
        if (!Street.mayBecome(what, v)) {
            return refuse(WRONG);
        }
        return street.changeWeather(what, v);
    }

    public int room(int pane, int v) {
        Pane one = street.paneAt(pane);
        if (one == null) {
            return refuse(NOBODY);
        }
        if (v < 0 || v > MOST_ROOM) {
            return refuse(WRONG);
        }
        int was = one.room;
        one.room = v;
        return was;
    }

    public int press(int s) {
        Shelf shelf = shelfAt(s);
        if (shelf == null || !shelf.hasRow()) {
            return refuse(lackOfRow(shelf));
        }
        // All or nothing: the items are told to a draft, which becomes the street if all stand.
        draft.takeAll(street);
        int items = reader.itemsOf(shelf, draft);
        if (items == NONE) {
            return refuse(WRONG);
        }
        street.takeAll(draft);
        return items;
    }

    public int fault() {
        return reader.faultPlace;
    }

    // ---- frost

    public int melt(int pane, int h) {
        Pane one = street.paneAt(pane);
        if (one == null) {
            return refuse(NOBODY);
        }
        if (h < 0 || h >= LAST_HOUR) {
            return refuse(WRONG);
        }
        return one.melting(h, street.out);
    }

    public int ice(int pane, int letter, int h, int cell) {
        Pane one = street.paneAt(pane);
        if (one == null || !street.isLetterOrNone(letter)) {
            return refuse(NOBODY);
        }
        if (!isCell(cell)) {
            return refuse(BEYOND);
        }
        if (!isHour(h)) {
            return refuse(WRONG);
        }
        return thought.iceAt(one, letter, h, cell);
    }

    public int shape(int pane, int letter, int h) {
        Pane one = street.paneAt(pane);
        if (one == null || !street.isLetterOrNone(letter)) {
            return refuse(NOBODY);
        }
        if (!isHour(h)) {
            return refuse(WRONG);
        }
        return thought.shapeAt(one, letter, h);
    }

    public int reads(int shape) {
        if (!isShape(shape)) {
            return refuseWrong();
        }
        return street.readingOf(shape);
    }

    public int readsAs(int pane, int letter, int h) {
        Pane one = street.paneAt(pane);
        if (one == null || !street.isLetterOrNone(letter)) {
            return refuseNobody();
        }
        if (!isHour(h)) {
            return refuseWrong();
        }
        return street.readingOf(thought.shapeAt(one, letter, h));
    }

    public int lasts(int pane, int letter) {
        Pane one = street.paneAt(pane);
        if (one == null || !street.isLetter(letter)) {
            return refuseNobody();
        }
        return thought.lastHour(one, letter);
    }

    public int page(int h) {
        if (!isHour(h)) {
            return refuse(WRONG);
        }
        return thought.panesRight(h);
    }

    // ---- what comes of it

    public int prints(int s, int n, int h, int i) {
        Shelf shelf = shelfAt(s);
        if (shelf == null || !shelf.hasRow()) {
            return refuse(lackOfRow(shelf));
        }
        if (n < 0) {
            return refuse(BELOW);
        }
        if (n > shelf.size || i < NONE || i >= n) {
            return refuse(BEYOND);
        }
        if (!isHour(h) || !areLetters(shelf, n)) {
            return refuse(WRONG);
        }
        if (n > street.paneCount) {
            return refuse(TOO_MUCH);
        }
        thought.noteRightLetters(shelf, n, h);
        thought.choosePanesFor(shelf, n);
        return i == NONE ? thought.chosenRight : thought.chosenPane(i);
    }

    private boolean areLetters(Shelf shelf, int n) {
        for (int i = 0; i < n; i++) {
            if (!street.isLetter(shelf.signAt(i))) {
                return false;
            }
        }
        return true;
    }

    public int becomes(int letter) {
        if (!street.isLetter(letter)) {
            return refuse(NOBODY);
        }
        return thought.othersReadFor(letter);
    }

    public int turns(int pane, int letter, int other) {
        Pane one = street.paneAt(pane);
        if (one == null || !street.isLetter(letter) || !street.isLetter(other)) {
            return refuseNobody();
        }
        return thought.firstHourAs(one, letter, other);
    }

    public int could(int pane, int shape, int h) {
        Pane one = street.paneAt(pane);
        if (one == null) {
            return refuse(NOBODY);
        }
        if (!isShape(shape) || !isHour(h)) {
            return refuse(WRONG);
        }
        return thought.lettersThatShow(one, shape, h);
    }

    public int unlike(int letter, int other) {
        if (!street.isLetter(letter) || !street.isLetter(other)) {
            return refuse(NOBODY);
        }
        return street.cellsUnlike(letter, other);
    }

    public int closest() {
        if (street.letterCount < 2) {
            return refuse(BEYOND);
        }
        return street.nearestPair();
    }

    public int mend(int letter) {
        if (!street.isLetter(letter)) {
            return refuse(NOBODY);
        }
        if (street.letterCount < 2) {
            return refuse(BEYOND);
        }
        return street.bestChange(letter);
    }

    public int stove(int pane, int letter, int h) {
        Pane one = street.paneAt(pane);
        if (one == null || !street.isLetter(letter)) {
            return refuseNobody();
        }
        if (!isHour(h)) {
            return refuseWrong();
        }
        return thought.warmestRoom(one, letter, h);
    }

    public int chill(int pane, int letter, int h) {
        Pane one = street.paneAt(pane);
        if (one == null || !street.isLetter(letter)) {
            return refuseNobody();
        }
        if (!isHour(h)) {
            return refuseWrong();
        }
        return thought.leastCold(one, letter, h);
    }

    public int mistaken() {
        return thought.curtainsRead();
    }

    public int let() {
        return thought.firstPaperLead();
    }

    // ---- in truth

    public int night() {
        return street.passNight();
    }

    public int hours(int n) {
        if (n < 1 || n > LAST_HOUR) {
            return refuse(WRONG);
        }
        if (street.hour > LAST_HOUR - n) {
            return refuse(TOO_MUCH);
        }
        return street.passHours(n);
    }

    public int truth(int pane, int what) {
        Pane one = street.paneAt(pane);
        if (one == null) {
            return refuse(NOBODY);
        }
        if (what == CELLS) {
            return one.frosted();
        }
        if (!isCell(what)) {
            return refuse(BEYOND);
        }
        return one.iceOn(what);
    }

    public int readOf(int pane) {
        Pane one = street.paneAt(pane);
        return one == null ? refuseNobody() : street.readingOf(one.frosted());
    }

    public int breath(int pane, int cell) {
        Pane one = street.paneAt(pane);
        if (one == null) {
            return refuse(NOBODY);
        }
        if (!isCell(cell)) {
            return refuse(BEYOND);
        }
        return one.breatheOn(cell);
    }

    public int scratch(int pane, int cell) {
        Pane one = street.paneAt(pane);
        if (one == null) {
            return refuse(NOBODY);
        }
        if (!isCell(cell)) {
            return refuse(BEYOND);
        }
        if (one.isScratched(cell)) {
            return refuse(WRONG);
        }
        return one.scratchOff(cell);
    }

    public int winter(int n) {
        if (n < 1 || n > MOST_NIGHTS) {
            return refuse(WRONG);
        }
        return street.passWinter(n);
    }

    public int seed(int v) {
        int was = street.drawn;
        street.drawn = v;
        return was;
    }

    // ---- acts, the image, status

    public int act(int pane, int act, int x) {
        acts.forget();
        Pane one = street.paneAt(pane);
        if (one == null || !Acts.isAct(act)) {
            return 0;
        }
        return acts.perform(one, pane, act, x);
    }

    public int trace(int i) {
        return acts.bodyAt(i);
    }

    public int image() {
        imaged.takeAll(street);
        hasImage = true;
        return street.paneCount;
    }

    public int restore() {
        if (!hasImage) {
            return refuse(WRONG);
        }
        street.takeAll(imaged);
        for (int i = 0; i < shelves.length; i++) {
            Shelf shelf = shelves[i];
            if (shelf != null && shelf.hasPane() && street.paneAt(shelf.paneNumber) == null) {
                shelf.takeNothing();
            }
        }
        return street.paneCount;
    }

    public int status(int what) {
        switch (what) {
            case 0:
                return street.letterCount;
            case 1:
                return street.paneCount;
            case 2:
                return street.cold;
            case 3:
                return street.wet;
            case 4:
                return street.out;
            case 5:
                return street.hour;
            case 6:
                return street.editions;
            case 7:
                return street.drawn;
            case 8:
                return acts.ran;
            default:
                return refusalsOf(what - 10);
        }
    }

    private int refusalsOf(int kind) {
        return kind >= 1 && kind < refusals.length ? refusals[kind] : NONE;
    }

    /** One of the shelves: nothing, a row (whose elements are kept for the next row), or a pane. */
    private static final class Shelf {
        static final int MOST_ELEMENTS = 160;
        static final int BYTES = 0;
        static final int SHORTS = 1;
        static final int INTS = 2;
        static final int LONGS = 3;
        private static final int ROW_TOLD = 100;

        final long[] elements;
        int sort;
        int size;
        int paneNumber;
        private boolean row;

        Shelf() {
            elements = new long[MOST_ELEMENTS];
            sort = BYTES;
            size = 0;
            paneNumber = NONE;
            row = false;
        }

        boolean hasRow() {
            return row;
        }

        boolean hasPane() {
            return !row && paneNumber != NONE;
        }

        void takeNothing() {
            row = false;
            size = 0;
            paneNumber = NONE;
        }

        void takePane(int number) {
            row = false;
            size = 0;
            paneNumber = number;
        }

        void takeRow(int ofSort, int n) {
            row = true;
            sort = ofSort;
            size = n;
            paneNumber = NONE;
            for (int i = 0; i < elements.length; i++) {
                elements[i] = 0;
            }
        }

        int told() {
            return row ? ROW_TOLD + sort : paneNumber;
        }

        long elementAt(int i) {
            return i >= 0 && i < size && i < elements.length ? elements[i] : 0;
        }

        /** The element as whatever a row tells goes by it: an int. */
        int signAt(int i) {
            return (int) elementAt(i);
        }

        void put(int i, long v) {
            if (i >= 0 && i < size && i < elements.length) {
                elements[i] = lowestBits(v);
            }
        }

        private long lowestBits(long v) {
            switch (sort) {
                case BYTES:
                    return (byte) v;
                case SHORTS:
                    return (short) v;
                case INTS:
                    return (int) v;
                default:
                    return v;
            }
        }

        /** Goes from the end if the elements move up, so that none is written over before it's read. */
        void putAll(Shelf from, int i, int j, int n) {
            for (int step = 0; step < n; step++) {
                int at = j > i ? n - 1 - step : step;
                put(j + at, from.elementAt(i + at));
            }
        }
    }

    /** A pane with what hangs behind it and the ice it has. */
    private static final class Pane {
        private static final int[] KIND_ABOVE = {-1, 0, 0, 2, 0, 1, 3};
        private static final int MOST_ICE = 20;
        private static final int WET_TO_SPREAD = 6;
        private static final int BESIDE_TO_SPREAD = 3;
        private static final int LAST_ROW = 12;
        private static final int SUN = 3;
        private static final int INNER_COLUMNS = 26214;

        int kind;
        int room;
        int a;
        int hung;
        int scratched;
        final int[] ice;

        Pane() {
            kind = PLAIN;
            room = 0;
            a = 0;
            hung = NONE;
            scratched = 0;
            ice = new int[CELLS];
        }

        static boolean isKind(int kind) {
            return kind >= 0 && kind < KIND_ABOVE.length;
        }

        static int kindAbove(int kind) {
            return kind >= 0 && kind < KIND_ABOVE.length ? KIND_ABOVE[kind] : NONE;
        }

        void makeNew(int ofKind, int withRoom, int withA) {
            kind = ofKind;
            room = withRoom;
            a = withA;
            hung = NONE;
            scratched = 0;
            for (int cell = 0; cell < ice.length; cell++) {
                ice[cell] = 0;
            }
        }

        /** Becomes like another pane, but for its ice. */
        void takeGlass(Pane other) {
            kind = other.kind;
            room = other.room;
            a = other.a;
            hung = other.hung;
            scratched = other.scratched;
        }

        void takeAll(Pane other) {
            takeGlass(other);
            for (int cell = 0; cell < ice.length; cell++) {
                ice[cell] = other.iceOn(cell);
            }
        }

        /** Is it of a kind, or of one under it? */
        boolean isOf(int wanted) {
            int one = kind;
            for (int step = 0; step < KIND_ABOVE.length && one != wanted; step++) {
                one = one >= 0 && one < KIND_ABOVE.length ? KIND_ABOVE[one] : NONE;
            }
            return one == wanted;
        }

        int countedCold(int cold) {
            return isOf(THICK) ? Math.max(cold - a, 0) : cold;
        }

        int sharpness(int cold, int wet) {
            int sharp = countedCold(cold) * wet / 20;
            return isOf(NORTH) && sharp >= 1 ? sharp + a : sharp;
        }

        int laceRow() {
            return a % SIDE;
        }

        int patternWith(int form) {
            if (kind == LACE) {
                return form | 15 << SIDE * laceRow();
            }
            return kind == SMOKED ? form & ALL_CELLS >> SIDE : form;
        }

        void freezeWith(int form, int sharp, int wet) {
            int pattern = patternWith(form);
            int whole = Math.min(sharp, MOST_ICE);
            for (int cell = 0; cell < ice.length; cell++) {
                ice[cell] = freshIce(cell, pattern, whole, wet);
            }
        }

        private int freshIce(int cell, int pattern, int whole, int wet) {
            if (hasCell(scratched, cell)) {
                return 0;
            }
            if (hasCell(pattern, cell)) {
                return whole;
            }
            boolean smokedOff = kind == SMOKED && cell >= LAST_ROW;
            int near = Integer.bitCount(pattern & cellsBeside(cell));
            boolean spreads = wet >= WET_TO_SPREAD && near >= BESIDE_TO_SPREAD;
            return spreads && !smokedOff ? whole / 2 : 0;
        }

        int melting(int hour, int out) {
            int warm = isOf(STOVED) ? out + room : out + room / 3;
            return kind == SUNNY && hour >= a ? warm + SUN : warm;
        }

        void passHours(int from, int to, int out) {
            for (int hour = from; hour < to && hour < LAST_HOUR; hour++) {
                meltBy(melting(hour, out));
            }
        }

        void meltBy(int melt) {
            int before = frosted();
            if (melt <= 0 || before == 0) {
                return;
            }
            int closedAside = before << 1 & before >> 1 & INNER_COLUMNS;
            for (int cell = 0; cell < ice.length; cell++) {
                int loss = hasCell(closedAside, cell) ? melt : melt + 1;
                ice[cell] = Math.max(ice[cell] - loss, 0);
            }
        }

        private static boolean hasCell(int cells, int cell) {
            return (cells >> cell & 1) == 1;
        }

        private static int cellsBeside(int cell) {
            int bit = 1 << cell;
            int column = cell % SIDE;
            int left = column > 0 ? bit >> 1 : 0;
            int right = column < SIDE - 1 ? bit << 1 : 0;
            return (bit >> SIDE | bit << SIDE | left | right) & ALL_CELLS;
        }

        int frosted() {
            int cells = 0;
            for (int cell = 0; cell < ice.length; cell++) {
                if (ice[cell] > 0) {
                    cells |= 1 << cell;
                }
            }
            return cells;
        }

        int iceOn(int cell) {
            return cell >= 0 && cell < ice.length ? ice[cell] : 0;
        }

        boolean isScratched(int cell) {
            return hasCell(scratched, cell);
        }

        int breatheOn(int cell) {
            int breathed = cellsBeside(cell) | 1 << cell;
            int lost = Integer.bitCount(frosted() & breathed);
            for (int one = 0; one < ice.length; one++) {
                if (hasCell(breathed, one)) {
                    ice[one] = 0;
                }
            }
            return lost;
        }

        int scratchOff(int cell) {
            int had = iceOn(cell);
            scratched |= 1 << cell;
            if (cell >= 0 && cell < ice.length) {
                ice[cell] = 0;
            }
            return had;
        }
    }

    /** All that an image has: letters, panes, the weather, the hour, editions, the seed. */
    private static final class Street {
        private static final int MOST_UNLIKE = 4;
        private static final int COLD = 0;
        private static final int WET = 1;
        private static final int OUT = 2;

        final int[] forms;
        final Pane[] panes;
        int letterCount;
        int paneCount;
        int cold;
        int wet;
        int out;
        int hour;
        int editions;
        int drawn;

        Street() {
            forms = new int[LETTERS];
            panes = new Pane[PANES];
            for (int i = 0; i < panes.length; i++) {
                panes[i] = new Pane();
            }
            letterCount = 0;
            paneCount = 0;
            cold = 20;
            wet = 5;
            out = 1;
            hour = LAST_HOUR;
            editions = 0;
            drawn = 1;
        }

        void takeAll(Street other) {
            for (int i = 0; i < forms.length; i++) {
                forms[i] = other.cellsOf(i);
            }
            for (int i = 0; i < panes.length; i++) {
                Pane theirs = other.paneAt(i);
                if (panes[i] != null && theirs != null) {
                    panes[i].takeAll(theirs);
                }
            }
            letterCount = other.letterCount;
            paneCount = other.paneCount;
            cold = other.cold;
            wet = other.wet;
            out = other.out;
            hour = other.hour;
            editions = other.editions;
            drawn = other.drawn;
        }

        boolean isLetter(int letter) {
            return letter >= 0 && letter < letterCount && letter < forms.length;
        }

        boolean isLetterOrNone(int letter) {
            return letter == NONE || isLetter(letter);
        }

        boolean hasLetterRoom() {
            return letterCount >= 0 && letterCount < forms.length;
        }

        int addLetter(int cells) {
            if (!hasLetterRoom()) {
                return NONE;
            }
            forms[letterCount] = cells;
            letterCount++;
            return letterCount - 1;
        }

        /** The form of a letter, or no cells for nothing. */
        int cellsOf(int letter) {
            return isLetter(letter) ? forms[letter] : 0;
        }

        Pane paneAt(int pane) {
            return pane >= 0 && pane < paneCount && pane < panes.length ? panes[pane] : null;
        }

        boolean hasPaneRoom() {
            return paneCount >= 0 && paneCount < panes.length;
        }

        int addPane(int kind, int room, int a) {
            paneCount++;
            Pane made = paneAt(paneCount - 1);
            if (made == null) {
                paneCount--;
                return NONE;
            }
            made.makeNew(kind, room, a);
            return paneCount - 1;
        }

        static int mostOf(int what) {
            switch (what) {
                case COLD:
                    return MOST_COLD;
                case WET:
                    return MOST_WET;
                case OUT:
                    return MOST_OUT;
                default:
                    return NONE;
            }
        }

        static boolean mayBecome(int what, int v) {
            return v >= 0 && v <= mostOf(what);
        }

        int changeWeather(int what, int v) {
            int was;
            switch (what) {
                case COLD:
                    was = cold;
                    cold = v;
                    return was;
                case WET:
                    was = wet;
                    wet = v;
                    return was;
                case OUT:
                    was = out;
                    out = v;
                    return was;
                default:
                    return NONE;
            }
        }

        int readingOf(int shape) {
            int read = NONE;
            int fewest = MOST_UNLIKE + 1;
            for (int letter = 0; letter < letterCount; letter++) {
                int unlike = Integer.bitCount(cellsOf(letter) ^ shape);
                if (unlike < fewest) {
                    fewest = unlike;
                    read = letter;
                } else if (unlike == fewest) {
                    read = NONE;
                }
            }
            return read;
        }

        int cellsUnlike(int letter, int other) {
            return Integer.bitCount(cellsOf(letter) ^ cellsOf(other));
        }

        int nearestPair() {
            int pair = NONE;
            int fewest = CELLS + 1;
            for (int lesser = 0; lesser < letterCount; lesser++) {
                for (int other = lesser + 1; other < letterCount; other++) {
                    int unlike = cellsUnlike(lesser, other);
                    if (unlike < fewest) {
                        fewest = unlike;
                        pair = 10 * lesser + other;
                    }
                }
            }
            return pair;
        }

        int bestChange(int letter) {
            int best = NONE;
            int most = NONE;
            for (int cell = 0; cell < CELLS; cell++) {
                int fewest = fewestUnlike(cellsOf(letter) ^ 1 << cell, letter);
                if (fewest > most) {
                    most = fewest;
                    best = cell;
                }
            }
            return best;
        }

        private int fewestUnlike(int cells, int but) {
            int fewest = CELLS + 1;
            for (int letter = 0; letter < letterCount; letter++) {
                if (letter != but) {
                    fewest = Math.min(fewest, Integer.bitCount(cellsOf(letter) ^ cells));
                }
            }
            return fewest;
        }

        int passNight() {
            int right = 0;
            for (int i = 0; i < paneCount; i++) {
                Pane pane = paneAt(i);
                if (pane != null) {
                    pane.freezeWith(cellsOf(pane.hung), pane.sharpness(cold, wet), wet);
                    right |= isReadRight(pane) ? 1 << i : 0;
                }
            }
            hour = 0;
            editions += right == 0 ? 0 : 1;
            return right;
        }

        private boolean isReadRight(Pane pane) {
            return pane.hung != NONE && readingOf(pane.frosted()) == pane.hung;
        }

        int passHours(int n) {
            for (int i = 0; i < paneCount; i++) {
                Pane pane = paneAt(i);
                if (pane != null) {
                    pane.passHours(hour, hour + n, out);
                }
            }
            hour += n;
            return hour;
        }

        int passWinter(int n) {
            int printed = 0;
            for (int step = 0; step < n; step++) {
                cold = drawBelow(MOST_COLD + 1);
                wet = drawBelow(MOST_WET + 1);
                printed += passNight() == 0 ? 0 : 1;
            }
            return printed;
        }

        private int drawBelow(int n) {
            drawn = drawn * 1103515245 + 12345;
            return n > 0 ? (drawn >>> 16) % n : 0;
        }
    }

    /** What would be: panes frozen and melted on a glass of their own, so that nothing is changed. */
    private static final class Thought {
        private final Street street;
        private final Pane glass;
        private final int[] readings;
        private final int[] rightLetters;
        private final int[] worths;
        private int chosenPanes;
        int chosenRight;

        Thought(Street of) {
            street = of;
            glass = new Pane();
            readings = new int[LAST_HOUR + 1];
            rightLetters = new int[PANES];
            worths = new int[PANES];
            chosenPanes = 0;
            chosenRight = 0;
        }

        int iceAt(Pane pane, int letter, int h, int cell) {
            shapeAt(pane, letter, h);
            return glass.iceOn(cell);
        }

        int shapeAt(Pane pane, int letter, int h) {
            glass.takeGlass(pane);
            return shapeOnGlass(letter, h, street.cold);
        }

        private int shapeOnGlass(int letter, int h, int cold) {
            int sharp = glass.sharpness(cold, street.wet);
            glass.freezeWith(street.cellsOf(letter), sharp, street.wet);
            glass.passHours(0, h, street.out);
            return glass.frosted();
        }

        /** What the pane is read as at each hour. */
        private void readAllHours(Pane pane, int letter) {
            glass.takeGlass(pane);
            int sharp = glass.sharpness(street.cold, street.wet);
            glass.freezeWith(street.cellsOf(letter), sharp, street.wet);
            for (int hour = 0; hour < readings.length; hour++) {
                readings[hour] = street.readingOf(glass.frosted());
                glass.meltBy(glass.melting(hour, street.out));
            }
        }

        int lastHour(Pane pane, int letter) {
            readAllHours(pane, letter);
            int last = NONE;
            for (int hour = 0; hour < readings.length && readings[hour] == letter; hour++) {
                last = hour;
            }
            return last;
        }

        int firstHourAs(Pane pane, int letter, int other) {
            readAllHours(pane, letter);
            for (int hour = 0; hour < readings.length; hour++) {
                if (readings[hour] == other) {
                    return hour;
                }
            }
            return NONE;
        }

        int othersReadFor(int letter) {
            int others = 0;
            for (int i = 0; i < street.paneCount; i++) {
                Pane pane = street.paneAt(i);
                if (pane != null) {
                    readAllHours(pane, letter);
                    others |= lettersAmongReadings();
                }
            }
            return others & ~(1 << letter);
        }

        private int lettersAmongReadings() {
            int letters = 0;
            for (int hour = 0; hour < readings.length; hour++) {
                if (readings[hour] >= 0) {
                    letters |= 1 << readings[hour];
                }
            }
            return letters;
        }

        int panesRight(int h) {
            int right = 0;
            for (int i = 0; i < street.paneCount; i++) {
                Pane pane = street.paneAt(i);
                if (pane != null && pane.hung != NONE
                        && street.readingOf(shapeAt(pane, pane.hung, h)) == pane.hung) {
                    right |= 1 << i;
                }
            }
            return right;
        }

        int lettersThatShow(Pane pane, int shape, int h) {
            int letters = 0;
            for (int letter = 0; letter < street.letterCount; letter++) {
                if (shapeAt(pane, letter, h) == shape) {
                    letters |= 1 << letter;
                }
            }
            return shapeAt(pane, NONE, h) == shape ? letters | WITH_NOTHING : letters;
        }

        int warmestRoom(Pane pane, int letter, int h) {
            glass.takeGlass(pane);
            for (int room = MOST_ROOM; room >= 0; room--) {
                glass.room = room;
                if (street.readingOf(shapeOnGlass(letter, h, street.cold)) == letter) {
                    return room;
                }
            }
            return NONE;
        }

        int leastCold(Pane pane, int letter, int h) {
            glass.takeGlass(pane);
            for (int cold = 0; cold <= MOST_COLD; cold++) {
                if (street.readingOf(shapeOnGlass(letter, h, cold)) == letter) {
                    return cold;
                }
            }
            return NONE;
        }

        int curtainsRead() {
            int panes = 0;
            for (int i = 0; i < street.paneCount; i++) {
                Pane pane = street.paneAt(i);
                if (pane != null && pane.hung == NONE
                        && street.readingOf(shapeAt(pane, NONE, 0)) != NONE) {
                    panes |= 1 << i;
                }
            }
            return panes;
        }

        /** Both papers value each pane alike, so each does best by the dearest that is left. */
        int firstPaperLead() {
            for (int i = 0; i < worths.length; i++) {
                worths[i] = worthOf(street.paneAt(i));
            }
            int lead = 0;
            for (int turn = 0; turn < worths.length; turn++) {
                int worth = takeDearest();
                lead += turn % 2 == 0 ? worth : -worth;
            }
            return lead;
        }

        private int takeDearest() {
            int dearest = NONE;
            int most = 0;
            for (int i = 0; i < worths.length; i++) {
                if (worths[i] > most) {
                    most = worths[i];
                    dearest = i;
                }
            }
            if (dearest >= 0 && dearest < worths.length) {
                worths[dearest] = 0;
            }
            return most;
        }

        private int worthOf(Pane pane) {
            if (pane == null || pane.hung == NONE) {
                return 0;
            }
            readAllHours(pane, pane.hung);
            int worth = 0;
            for (int hour = 0; hour < readings.length; hour++) {
                worth += readings[hour] == pane.hung ? 1 : 0;
            }
            return worth;
        }

        /** Which letters of the word would be read right on each pane at an hour. */
        void noteRightLetters(Shelf word, int n, int h) {
            for (int i = 0; i < rightLetters.length; i++) {
                rightLetters[i] = 0;
                Pane pane = street.paneAt(i);
                if (pane != null) {
                    glass.takeGlass(pane);
                    rightLetters[i] = lettersRightOnGlass(word, n, h);
                }
            }
        }

        private int lettersRightOnGlass(Shelf word, int n, int h) {
            int letters = 0;
            for (int i = 0; i < n; i++) {
                int letter = word.signAt(i);
                if (street.readingOf(shapeOnGlass(letter, h, street.cold)) == letter) {
                    letters |= 1 << letter;
                }
            }
            return letters;
        }

        /**
         * Choices of panes are bits with pane 0 as the highest: so the rows of panes that come first
         * are the greater numbers.
         */
        void choosePanesFor(Shelf word, int n) {
            chosenPanes = 0;
            chosenRight = NONE;
            for (int choice = (1 << street.paneCount) - 1; choice >= 0; choice--) {
                if (Integer.bitCount(choice) == n) {
                    int right = rightBy(choice, word);
                    if (right > chosenRight) {
                        chosenRight = right;
                        chosenPanes = choice;
                    }
                }
            }
        }

        private boolean isChosen(int choice, int pane) {
            return (choice >> street.paneCount - 1 - pane & 1) == 1;
        }

        private int rightBy(int choice, Shelf word) {
            int right = 0;
            int place = 0;
            for (int i = 0; i < street.paneCount && i < rightLetters.length; i++) {
                if (isChosen(choice, i)) {
                    right += rightLetters[i] >> word.signAt(place) & 1;
                    place++;
                }
            }
            return right;
        }

        int chosenPane(int place) {
            int seen = 0;
            for (int i = 0; i < street.paneCount; i++) {
                if (isChosen(chosenPanes, i)) {
                    if (seen == place) {
                        return i;
                    }
                    seen++;
                }
            }
            return NONE;
        }
    }

    /** Reads a press, element by element, and tells its items to a street. */
    private static final class Reader {
        private static final int FORM = 0;
        private static final int PANE = 1;
        private static final int HANG = 2;
        private static final int COLD = 3;
        private static final int WET = 4;
        private static final int OUT = 5;
        private static final int MOST_DIGITS = 5;

        private final int[] numbers;
        private int at;
        int faultPlace;

        Reader() {
            numbers = new int[3];
            at = 0;
            faultPlace = NONE;
        }

        /** How many items stand; NONE if there is a fault. */
        int itemsOf(Shelf text, Street told) {
            at = 0;
            faultPlace = NONE;
            for (int items = 1; items <= Shelf.MOST_ELEMENTS; items++) {
                if (!itemStands(text, told)) {
                    return NONE;
                }
                if (at >= text.size) {
                    return items;
                }
                if (!signStands(text, ';')) {
                    return NONE;
                }
            }
            failAt(at);
            return NONE;
        }

        private boolean failAt(int place) {
            faultPlace = place;
            return false;
        }

        private boolean signStands(Shelf text, int sign) {
            if (at >= text.size || text.signAt(at) != sign) {
                return failAt(at);
            }
            at++;
            return true;
        }

        private boolean itemStands(Shelf text, Street told) {
            int start = at;
            int word = at < text.size ? wordFrom(text.signAt(at)) : NONE;
            if (word == NONE) {
                return failAt(at);
            }
            if (!lettersStand(text, lettersOf(word))) {
                return false;
            }
            if (!hasRoomFor(word, told)) {
                return failAt(start);
            }
            for (int i = 0; i < numbersOf(word) && i < numbers.length; i++) {
                if (!signStands(text, ' ') || !numberStands(text, mostOf(word, i, told), i)) {
                    return false;
                }
            }
            tell(word, told);
            return true;
        }

        private boolean lettersStand(Shelf text, String letters) {
            for (int i = 0; i < letters.length(); i++) {
                if (!signStands(text, letters.charAt(i))) {
                    return false;
                }
            }
            return true;
        }

        private boolean numberStands(Shelf text, int most, int i) {
            int first = at;
            int value = 0;
            for (int digits = 0; digits < MOST_DIGITS && isDigitAt(text); digits++) {
                value = value * 10 + text.signAt(at) - '0';
                at++;
            }
            if (at == first || value > most) {
                return failAt(first);
            }
            if (i >= 0 && i < numbers.length) {
                numbers[i] = value;
            }
            return true;
        }

        private boolean isDigitAt(Shelf text) {
            return at < text.size && text.signAt(at) >= '0' && text.signAt(at) <= '9';
        }

        /** No two words begin alike. */
        private static int wordFrom(int sign) {
            switch (sign) {
                case 'f':
                    return FORM;
                case 'p':
                    return PANE;
                case 'h':
                    return HANG;
                case 'c':
                    return COLD;
                case 'w':
                    return WET;
                case 'o':
                    return OUT;
                default:
                    return NONE;
            }
        }

        private static String lettersOf(int word) {
            switch (word) {
                case FORM:
                    return "form";
                case PANE:
                    return "pane";
                case HANG:
                    return "hang";
                case COLD:
                    return "cold";
                case WET:
                    return "wet";
                default:
                    return "out";
            }
        }

        private static int numbersOf(int word) {
            switch (word) {
                case PANE:
                    return 3;
                case HANG:
                    return 2;
                default:
                    return 1;
            }
        }

        private static boolean hasRoomFor(int word, Street told) {
            switch (word) {
                case FORM:
                    return told.hasLetterRoom();
                case PANE:
                    return told.hasPaneRoom();
                default:
                    return true;
            }
        }

        /** The greatest number that may stand as the i-th of a word. */
        private static int mostOf(int word, int i, Street told) {
            switch (word) {
                case FORM:
                    return ALL_CELLS;
                case PANE:
                    return i == 0 ? SMOKED : i == 1 ? MOST_ROOM : MOST_A;
                case HANG:
                    return i == 0 ? told.paneCount - 1 : told.letterCount - 1;
                case COLD:
                    return MOST_COLD;
                case WET:
                    return MOST_WET;
                default:
                    return MOST_OUT;
            }
        }

        private void tell(int word, Street told) {
            int first = numbers.length > 0 ? numbers[0] : 0;
            int second = numbers.length > 1 ? numbers[1] : 0;
            int third = numbers.length > 2 ? numbers[2] : 0;
            switch (word) {
                case FORM:
                    told.addLetter(first);
                    break;
                case PANE:
                    told.addPane(first, second, third);
                    break;
                case HANG:
                    Pane pane = told.paneAt(first);
                    if (pane != null) {
                        pane.hung = second;
                    }
                    break;
                case COLD:
                    told.cold = first;
                    break;
                case WET:
                    told.wet = first;
                    break;
                default:
                    told.out = first;
                    break;
            }
        }
    }

    /** Acts of panes, by bodies that kinds have of their own or from the next kind above. */
    private static final class Acts {
        private static final int FREEZES = 0;
        private static final int MELTS = 1;
        private static final int SHOWS = 2;
        private static final int[] FREEZING = {10, 20, 0, 0, 51, 0, 70};
        private static final int[] MELTING = {11, 0, 30, 40, 0, 0, 71};
        private static final int[] SHOWING = {12, 0, 0, 0, 50, 60, 0};
        private static final int DEEPEST = 40;

        private final int[] bodies;
        int ran;
        private int kind;
        private int number;
        private int a;

        Acts() {
            bodies = new int[20];
            ran = 0;
            kind = PLAIN;
            number = 0;
            a = 0;
        }

        static boolean isAct(int act) {
            return act >= FREEZES && act <= SHOWS;
        }

        void forget() {
            ran = 0;
        }

        int perform(Pane pane, int paneNumber, int act, int x) {
            kind = pane.kind;
            number = paneNumber;
            a = pane.a;
            return run(this, act, kind, x, 0);
        }

        int bodyAt(int i) {
            return i >= 0 && i < ran && i < bodies.length ? bodies[i] : NONE;
        }

        private void note(int body) {
            if (ran >= 0 && ran < bodies.length) {
                bodies[ran] = body;
            }
            ran++;
        }

        /** The body of a kind, or of the next kind above that has one. */
        private static int bodyFor(int act, int from) {
            int one = from;
            for (int step = 0; step < FREEZING.length; step++) {
                int body = ownBody(act, one);
                if (body != 0) {
                    return body;
                }
                one = Pane.kindAbove(one);
            }
            return 0;
        }

        private static int ownBody(int act, int kind) {
            switch (act) {
                case FREEZES:
                    return kind >= 0 && kind < FREEZING.length ? FREEZING[kind] : 0;
                case MELTS:
                    return kind >= 0 && kind < MELTING.length ? MELTING[kind] : 0;
                default:
                    return kind >= 0 && kind < SHOWING.length ? SHOWING[kind] : 0;
            }
        }

        /** Runs an act from a kind on: the pane's own, or, as super, the one above a body's. */
        private static int run(Acts of, int act, int from, int x, int depth) {
            if (depth >= DEEPEST) {
                return 0;
            }
            int deeper = depth + 1;
            int body = bodyFor(act, from);
            of.note(body);
            switch (body) {
                case 10:
                    return x + of.number;
                case 11:
                    return run(of, FREEZES, of.kind, x, deeper) * 2;
                case 12:
                    return run(of, MELTS, of.kind, x, deeper)
                            ^ run(of, FREEZES, of.kind, x - of.a, deeper);
                case 20:
                    return run(of, FREEZES, PLAIN, x, deeper) + of.a;
                case 30:
                    return run(of, MELTS, PLAIN, x, deeper) * 3;
                case 40:
                    return run(of, MELTS, THICK, x + 1, deeper);
                case 50:
                    return -run(of, SHOWS, PLAIN, x, deeper);
                case 51:
                    return run(of, FREEZES, PLAIN, x, deeper) - of.number;
                case 60:
                    return run(of, SHOWS, NORTH, x, deeper) ^ 5;
                case 70:
                    return run(of, FREEZES, STOVED, x, deeper) * 2;
                case 71:
                    return run(of, MELTS, STOVED, x - of.a, deeper);
                default:
                    return 0;
            }
        }
    }
}
