/**
 * A town told without left or right: corners, the streets about them in a round order, wells at which a hand
 * can be agreed on, its image in a mirror, and sayings that lead through both. All rows are made once, with
 * the object, as every object and element of a run is counted.
 */
public final class SidelessTown {
    public static final int NONE = -1000000, BAD = -1000001, STATE = -1000002, FULL = -1000003;

    /** An answer that tells a finding is FOUND less its number, one that tells a fault FAULTY less its place. */
    private static final int FOUND = -1000010, FAULTY = -1000100;
    private static final int NO_FINDING = 0, NULL = 1, PLACE = 2, KIND = 3, SIZE = 4, STORE = 5;

    /** The numbers of words; "mark M" is kept as MARKS and M. */
    private static final int UP = 0, DOWN = 1, MARK = 2, ON = 3, BACK = 4, HAND = 5, OTHER = 6, TAKE = 7;
    private static final int MARKS = 20, MOST_MARK = 9;

    /** The kinds of words. */
    private static final int ANY = 0, SLOPE = 1, MARKED = 2, TURNED = 3, HANDED = 4, TAKEN = 5;

    /** All words in the order by which, of several shortest ways, the first is told. */
    private static final int[] WAYS =
        {UP, DOWN, 20, 21, 22, 23, 24, 25, 26, 27, 28, 29, ON, BACK, HAND, OTHER, TAKE};
    /** How many of these look at corners alone, how many need no hand, how many there are. */
    private static final int PLAIN = 12, HANDLESS = 14, ALL = 17;

    private final Rows rows;
    private final Text text;
    private final Town here;
    private final Town draftTown;
    private final Saying told;
    private final Saying draftSaying;
    private final Kept firstImage;
    private final Kept secondImage;
    private final Walks walks;
    private final Goals goals;
    private final Search search;
    private final Layings layings;
    private final Asks asks;
    private int latestFinding;

    public SidelessTown() {
        rows = new Rows();
        text = new Text();
        here = new Town();
        draftTown = new Town();
        told = new Saying();
        draftSaying = new Saying();
        firstImage = new Kept();
        secondImage = new Kept();
        walks = new Walks(here, told);
        goals = new Goals(here);
        search = new Search(here);
        layings = new Layings(here);
        asks = new Asks(told);
    }

    // ---- rows

    public int row(int row, int lane, int n) {
        if (!rows.has(row) || !within(lane, Rows.LANES) || n > Rows.ITEMS) {
            return BAD;
        }
        if (n < 0) {
            return found(SIZE);
        }
        rows.make(row, lane, n);
        return fine(n);
    }

    public int set(int row, int i, int v) {
        if (!rows.has(row)) {
            return BAD;
        }
        int finding = rows.findingAt(row, i, 1);
        return finding != NO_FINDING ? found(finding) : fine(rows.store(row, i, v));
    }

    public int copy(int a, int i, int b, int j, int n) {
        if (!rows.has(a) || !rows.has(b)) {
            return BAD;
        }
        int finding = rows.findingBetween(a, i, b, j, n);
        if (finding != NO_FINDING) {
            return found(finding);
        }
        rows.move(a, i, b, j, n);
        return fine(n);
    }

    public int drop(int row) {
        if (!rows.has(row)) {
            return BAD;
        }
        return rows.missing(row) ? found(NULL) : fine(rows.takeAway(row));
    }

    // ---- towns, sayings

    public int feed(long w, int n) {
        if (n < 1 || n > 8) {
            return BAD;
        }
        if (!text.hasRoomFor(n)) {
            return FULL;
        }
        text.append(w, n);
        return text.length();
    }

    public int town() {
        boolean read = text.readTown(draftTown);
        text.empty();
        if (!read) {
            return FAULTY - text.faultPlace();
        }
        here.become(draftTown);
        layings.forget();
        return here.corners();
    }

    public int say() {
        boolean read = text.readSaying(draftSaying);
        text.empty();
        if (!read) {
            return FAULTY - text.faultPlace();
        }
        told.become(draftSaying);
        return told.length();
    }

    public int words(int row, int i, int n) {
        if (!rows.has(row) || n < 0 || n > Saying.MOST) {
            return BAD;
        }
        int finding = rows.findingAt(row, i, n);
        if (finding != NO_FINDING) {
            return found(finding);
        }
        draftSaying.clear();
        for (int k = 0; k < n; k++) {
            if (!draftSaying.add(rows.item(row, i + k))) {
                return BAD;
            }
        }
        told.become(draftSaying);
        return fine(n);
    }

    public int fault() {
        return text.faultNumber();
    }

    public int corner(int corner, int what) {
        if (!here.has(corner)) {
            return BAD;
        }
        switch (what) {
            case 0: return here.heightOf(corner);
            case 1: return here.markOf(corner);
            case 2: return here.hasWell(corner) ? 1 : 0;
            case 3: return here.streetsAt(corner);
            default: return within(what - 10, Town.AROUND) ? here.neighbour(corner, what - 10) : BAD;
        }
    }

    public int mark(int corner, int m) {
        if (!here.has(corner) || !within(m, MOST_MARK + 1)) {
            return BAD;
        }
        int was = here.markOf(corner);
        here.setMark(corner, m);
        layings.forget();
        return was;
    }

    public int word(int k) {
        return k < 0 ? BAD : told.wordAt(k);
    }

    // ---- walked

    public int walk(int corner, int image, int raw, int what) {
        if (!here.has(corner) || !bit(image) || !bit(raw) || !bit(what)) {
            return BAD;
        }
        int failing = walks.lead(corner, image == 1, raw == 1, NONE);
        return what == 0 ? walks.end() : failing;
    }

    public int parts(int corner, int raw) {
        return !here.has(corner) || !bit(raw) ? BAD : walks.partingOf(corner, raw == 1);
    }

    public int apart(int corner, int what) {
        if (!here.has(corner) || !bit(what)) {
            return BAD;
        }
        goals.sortIntoClasses();
        return what == 0 ? goals.classOf(corner) : goals.classes();
    }

    public int shortest(int a, int b, int hands, int k) {
        if (!here.has(a) || !here.has(b) || !bit(hands) || k < -1) {
            return BAD;
        }
        search.spread(a, hands == 1 ? ALL : HANDLESS);
        int end = search.firstAt(b);
        return k == -1 ? search.wordsTo(end) : search.wordOnTheWay(end, k);
    }

    public int soonest(int a, int what) {
        if (!here.has(a) || !bit(what)) {
            return BAD;
        }
        search.spread(a, HANDLESS);
        int end = search.firstAtWell();
        return what == 0 ? search.wordsTo(end) : search.cornerAt(end);
    }

    public int laid(int what, int i, int corner) {
        if (!bit(what) || i < -1 || !here.has(corner)) {
            return BAD;
        }
        int round = what == 0 ? 1 : -1;
        layings.countAll();
        return i == -1 ? layings.howMany(round) : layings.whereLaid(round, i, corner);
    }

    public int ends() {
        if (here.corners() == 0) {
            return STATE;
        }
        layings.countAll();
        return layings.leastMovedByAllImages();
    }

    public int lost(int corner) {
        return !here.has(corner) ? BAD : walks.endsWithOneLost(corner);
    }

    public int meet(int a, int b, int what) {
        if (!here.has(a) || !here.has(b) || !bit(what)) {
            return BAD;
        }
        return what == 0 ? walks.meeting(a, b) : goals.soonestMeeting(a, b);
    }

    public int gloves(int l, int r, int what) {
        if (!within(l - 1, 8) || !within(r - 1, 8) || !within(what, 3)) {
            return BAD;
        }
        if (what == 0) {
            return Math.max(l, r) + 1;
        }
        // On the mean l / (r + 1) gloves more are drawn for a start with the one hand, r / (l + 1) with the other.
        int below = (l + 1) * (r + 1);
        int above = below + l * (l + 1) + r * (r + 1);
        int common = commonMeasure(above, below);
        if (common < 1) {
            return BAD;
        }
        return what == 1 ? above / common : below / common;
    }

    public int image(int k) {
        if (!bit(k)) {
            return BAD;
        }
        if (here.corners() == 0) {
            return STATE;
        }
        keptBy(k).keep(here, told);
        return 1;
    }

    public int restore(int k) {
        if (!bit(k)) {
            return BAD;
        }
        if (!keptBy(k).isKept()) {
            return STATE;
        }
        keptBy(k).giveBack(here, told);
        layings.forget();
        return 1;
    }

    // ---- asked

    public int kind(int k) {
        return told.has(k) ? told.kindAt(k) : BAD;
    }

    public int as(int k, int kind) {
        if (!told.has(k) || !within(kind, TAKEN + 1)) {
            return BAD;
        }
        return told.isOne(k, kind) ? fine(told.wordAt(k)) : found(KIND);
    }

    public int ask(int k, int what) {
        if (!told.has(k) || !bit(what)) {
            return BAD;
        }
        asks.begin(k);
        return what == 0 ? asks.sizeOfAsked() : asks.markOfAsked();
    }

    public int trace(int i) {
        return asks.left(i);
    }

    public int count(int what) {
        switch (what) {
            case 0: return rows.howMany();
            case 1: return here.corners();
            case 2: return here.streets();
            case 3: return here.wells();
            case 4: return told.length();
            case 5: return text.length();
            default: return BAD;
        }
    }

    public int status() {
        return latestFinding;
    }

    // ---- of use to all

    private int found(int finding) {
        latestFinding = finding;
        return FOUND - finding;
    }

    private int fine(int answer) {
        latestFinding = NO_FINDING;
        return answer;
    }

    private Kept keptBy(int k) {
        return k == 0 ? firstImage : secondImage;
    }

    private static boolean bit(int v) {
        return v == 0 || v == 1;
    }

    private static boolean within(int v, int most) {
        return v >= 0 && v < most;
    }

    private static int commonMeasure(int a, int b) {
        for (int c = Math.min(a, b); c > 1; c--) {
            if (a % c == 0 && b % c == 0) {
                return c;
            }
        }
        return 1;
    }

    /** No index is used unlooked at: all rows are read and written by these two. */
    private static int at(int[] a, int i) {
        return i >= 0 && i < a.length ? a[i] : NONE;
    }

    private static void put(int[] a, int i, int v) {
        if (i >= 0 && i < a.length) {
            a[i] = v;
        }
    }

    private static void fill(int[] a, int v) {
        for (int i = 0; i < a.length; i++) {
            a[i] = v;
        }
    }

    private static void putAll(int[] to, int[] from) {
        for (int i = 0; i < to.length && i < from.length; i++) {
            to[i] = from[i];
        }
    }

    /** Rows of bytes, shorts or ints. The items of all lie in one table, made once. */
    private static final class Rows {
        private static final int MOST = 8, LANES = 3, ITEMS = 40, MISSING = -1;

        private final int[] lane = new int[MOST];
        private final int[] size = new int[MOST];
        private final int[] items = new int[MOST * ITEMS];

        private Rows() {
            fill(lane, MISSING);
        }

        boolean has(int row) {
            return within(row, MOST);
        }

        boolean missing(int row) {
            return at(lane, row) < 0;
        }

        int howMany() {
            int n = 0;
            for (int row = 0; row < MOST; row++) {
                n += missing(row) ? 0 : 1;
            }
            return n;
        }

        int findingAt(int row, int i, int n) {
            if (missing(row)) {
                return NULL;
            }
            return beyond(row, i, n) ? PLACE : NO_FINDING;
        }

        int findingBetween(int a, int i, int b, int j, int n) {
            if (missing(a) || missing(b)) {
                return NULL;
            }
            if (at(lane, a) != at(lane, b)) {
                return STORE;
            }
            return beyond(a, i, n) || beyond(b, j, n) ? PLACE : NO_FINDING;
        }

        private boolean beyond(int row, int i, int n) {
            // i + n may wrap round, the size less n (0 or more) can't.
            return i < 0 || n < 0 || i > at(size, row) - n;
        }

        void make(int row, int itsLane, int n) {
            put(lane, row, itsLane);
            put(size, row, n);
            for (int i = 0; i < n && i < ITEMS; i++) {
                put(items, row * ITEMS + i, 0);
            }
        }

        int item(int row, int i) {
            return at(items, row * ITEMS + i);
        }

        int store(int row, int i, int v) {
            int kept = lowestBits(at(lane, row), v);
            put(items, row * ITEMS + i, kept);
            return kept;
        }

        private static int lowestBits(int lane, int v) {
            switch (lane) {
                case 0: return (byte) v;
                case 1: return (short) v;
                default: return v;
            }
        }

        /** Goes through the items from the side on which none is overwritten ahead of its being read. */
        void move(int a, int i, int b, int j, int n) {
            boolean fromTheEnd = i < j;
            for (int step = 0; step < n && step < ITEMS; step++) {
                int k = fromTheEnd ? n - 1 - step : step;
                put(items, b * ITEMS + j + k, item(a, i + k));
            }
        }

        int takeAway(int row) {
            put(lane, row, MISSING);
            return at(size, row);
        }
    }

    /** The tape, the tokens into which it is cut, and the reading of towns and sayings from these. */
    private static final class Text {
        private static final int MOST = 400, MOST_FIGURES = 3;
        private static final int END = 0, NAME = 1, NUMBER = 2, SIGN = 3, BROKEN = 4, BLANK = 5;
        /** Names behind those of the words, which have the words' numbers. */
        private static final int CORNER = 8, STREET = 9, WELL = 10, NAMES = 11, UNKNOWN = -1;
        private static final int CANNOT_STAND = 1, NOT_AS_TOLD = 2, NO_ROOM = 3;

        private final int[] tape = new int[MOST];
        private int length;
        /** Of each token: its first byte, its sort, and which name or number it is. The last one is END. */
        private final int[] starts = new int[MOST + 1];
        private final int[] sorts = new int[MOST + 1];
        private final int[] values = new int[MOST + 1];
        private int tokens;
        /** The token looked at. */
        private int token;
        /** The latest number that was read. */
        private int number;
        private int faultNumber, faultPlace;

        int length() {
            return length;
        }

        boolean hasRoomFor(int n) {
            return length + n <= MOST;
        }

        void append(long w, int n) {
            for (int i = n - 1; i >= 0; i--) {
                put(tape, length, (int) (w >>> (8 * i)) & 255);
                length++;
            }
        }

        void empty() {
            length = 0;
        }

        int faultNumber() {
            return faultNumber;
        }

        int faultPlace() {
            return faultPlace;
        }

        boolean readTown(Town draft) {
            draft.clear();
            cut();
            return readCorners(draft) && readStreets(draft);
        }

        private boolean readCorners(Town draft) {
            for (int c = 0; c < Town.MOST; c++) {
                if (!isName(CORNER)) {
                    return c >= Town.LEAST || fail(CANNOT_STAND);
                }
                token++;
                if (!readCorner(draft)) {
                    return false;
                }
            }
            return !isName(CORNER) || fail(NO_ROOM);
        }

        private boolean readCorner(Town draft) {
            if (!readNumber(Town.MOST_HEIGHT)) {
                return false;
            }
            int height = number;
            if (!readNumber(MOST_MARK)) {
                return false;
            }
            boolean well = isName(WELL);
            token += well ? 1 : 0;
            draft.addCorner(height, number, well);
            return readSign();
        }

        private boolean readStreets(Town draft) {
            for (int s = 0; s < Town.MOST_STREETS; s++) {
                if (!isName(STREET)) {
                    return (s > 0 && sort() == END) || fail(CANNOT_STAND);
                }
                token++;
                if (!readStreet(draft)) {
                    return false;
                }
            }
            return sort() == END || fail(isName(STREET) ? NO_ROOM : CANNOT_STAND);
        }

        private boolean readStreet(Town draft) {
            if (!readStreetEnd(draft, NONE)) {
                return false;
            }
            int a = number;
            if (!readStreetEnd(draft, a)) {
                return false;
            }
            draft.addStreet(a, number);
            return readSign();
        }

        /** The end of a street that comes from a corner, or (from NONE) its first end. */
        private boolean readStreetEnd(Town draft, int from) {
            if (sort() != NUMBER) {
                return fail(CANNOT_STAND);
            }
            int corner = value();
            if (!draft.has(corner) || corner == from || draft.joined(from, corner)) {
                return fail(NOT_AS_TOLD);
            }
            if (draft.streetsAt(corner) >= Town.AROUND) {
                return fail(NO_ROOM);
            }
            number = corner;
            token++;
            return true;
        }

        boolean readSaying(Saying draft) {
            draft.clear();
            cut();
            for (int k = 0; k < Saying.MOST && isWord(); k++) {
                if (!readWord(draft)) {
                    return false;
                }
            }
            if (isWord()) {
                return fail(NO_ROOM);
            }
            return readSign() && (sort() == END || fail(CANNOT_STAND));
        }

        private boolean readWord(Saying draft) {
            int word = value();
            token++;
            if (word != MARK) {
                return draft.add(word);
            }
            return readNumber(MOST_MARK) && draft.add(MARKS + number);
        }

        private boolean readNumber(int most) {
            if (sort() != NUMBER) {
                return fail(CANNOT_STAND);
            }
            if (value() > most) {
                return fail(NOT_AS_TOLD);
            }
            number = value();
            token++;
            return true;
        }

        private boolean readSign() {
            if (sort() != SIGN) {
                return fail(CANNOT_STAND);
            }
            token++;
            return true;
        }

        private boolean isName(int name) {
            return sort() == NAME && value() == name;
        }

        private boolean isWord() {
            return sort() == NAME && within(value(), TAKE + 1);
        }

        private int sort() {
            return at(sorts, token);
        }

        private int value() {
            return at(values, token);
        }

        private boolean fail(int itsNumber) {
            faultNumber = itsNumber;
            faultPlace = at(starts, token);
            return false;
        }

        private void cut() {
            tokens = 0;
            token = 0;
            int behind = 0;
            for (int i = 0; i < length; i++) {
                int sort = sortOf(at(tape, i));
                if (i >= behind && sort != BLANK) {
                    behind = behindRun(i, sort);
                    note(i, sort, behind - i);
                }
            }
            note(length, END, 0);
        }

        private static int sortOf(int b) {
            if (b == 32 || b == 10) {
                return BLANK;
            }
            if (b >= 'a' && b <= 'z') {
                return NAME;
            }
            if (b >= '0' && b <= '9') {
                return NUMBER;
            }
            return b == ';' ? SIGN : BROKEN;
        }

        private int behindRun(int from, int sort) {
            int i = from + 1;
            for (; i < length && (sort == NAME || sort == NUMBER) && sortOf(at(tape, i)) == sort; i++) { }
            return i;
        }

        private void note(int start, int sort, int bytes) {
            boolean tooLong = sort == NUMBER && bytes > MOST_FIGURES;
            put(starts, tokens, start);
            put(sorts, tokens, tooLong ? BROKEN : sort);
            if (sort == NAME) {
                put(values, tokens, nameOf(start, bytes));
            } else {
                put(values, tokens, sort == NUMBER ? numberOf(start, bytes) : UNKNOWN);
            }
            tokens++;
        }

        private int numberOf(int from, int figures) {
            int n = 0;
            for (int i = 0; i < figures && i < MOST_FIGURES; i++) {
                n = n * 10 + at(tape, from + i) - '0';
            }
            return n;
        }

        private int nameOf(int from, int letters) {
            for (int name = 0; name < NAMES; name++) {
                if (isSpelt(spelling(name), from, letters)) {
                    return name;
                }
            }
            return UNKNOWN;
        }

        private boolean isSpelt(String name, int from, int letters) {
            if (name.length() != letters) {
                return false;
            }
            for (int i = 0; i < name.length(); i++) {
                if (name.charAt(i) != at(tape, from + i)) {
                    return false;
                }
            }
            return true;
        }

        private static String spelling(int name) {
            switch (name) {
                case UP: return "up";
                case DOWN: return "down";
                case MARK: return "mark";
                case ON: return "on";
                case BACK: return "back";
                case HAND: return "hand";
                case OTHER: return "other";
                case TAKE: return "take";
                case CORNER: return "corner";
                case STREET: return "street";
                case WELL: return "well";
                default: return "";
            }
        }
    }

    /** Corners and the streets about each, in the order in which they were told. */
    private static final class Town {
        private static final int LEAST = 2, MOST = 8, MOST_STREETS = 12, AROUND = 6, MOST_HEIGHT = 99;

        private int corners, streets;
        private final int[] height = new int[MOST];
        private final int[] mark = new int[MOST];
        private final int[] well = new int[MOST];
        private final int[] about = new int[MOST];
        /** Where the streets about corner c lead to, from c * AROUND on; NONE behind them. */
        private final int[] order = new int[MOST * AROUND];
        /** Which of the streets about corner a leads to corner b, at a * MOST + b; NONE: they are not joined. */
        private final int[] place = new int[MOST * MOST];

        void clear() {
            corners = 0;
            streets = 0;
            fill(about, 0);
            fill(order, NONE);
            fill(place, NONE);
        }

        void become(Town other) {
            corners = other.corners;
            streets = other.streets;
            putAll(height, other.height);
            putAll(mark, other.mark);
            putAll(well, other.well);
            putAll(about, other.about);
            putAll(order, other.order);
            putAll(place, other.place);
        }

        void addCorner(int itsHeight, int itsMark, boolean itsWell) {
            put(height, corners, itsHeight);
            put(mark, corners, itsMark);
            put(well, corners, itsWell ? 1 : 0);
            corners++;
        }

        void addStreet(int a, int b) {
            addStreetAt(a, b);
            addStreetAt(b, a);
            streets++;
        }

        private void addStreetAt(int a, int b) {
            int i = at(about, a);
            put(order, a * AROUND + i, b);
            put(place, a * MOST + b, i);
            put(about, a, i + 1);
        }

        boolean has(int corner) {
            return within(corner, corners);
        }

        int corners() {
            return corners;
        }

        int streets() {
            return streets;
        }

        int wells() {
            int n = 0;
            for (int c = 0; c < corners; c++) {
                n += hasWell(c) ? 1 : 0;
            }
            return n;
        }

        int heightOf(int corner) {
            return at(height, corner);
        }

        int markOf(int corner) {
            return at(mark, corner);
        }

        void setMark(int corner, int m) {
            put(mark, corner, m);
        }

        boolean hasWell(int corner) {
            return at(well, corner) == 1;
        }

        int streetsAt(int corner) {
            return at(about, corner);
        }

        int neighbour(int corner, int i) {
            return within(i, AROUND) ? at(order, corner * AROUND + i) : NONE;
        }

        boolean joined(int a, int b) {
            return at(place, a * MOST + b) != NONE;
        }

        /** Where up (way 1) or down (way -1) leads, or NONE. */
        int steepest(int corner, int way) {
            int best = way * at(height, corner);
            int goal = NONE;
            for (int i = 0; i < at(about, corner); i++) {
                int other = at(order, corner * AROUND + i);
                int there = way * at(height, other);
                if (there > best) {
                    best = there;
                    goal = other;
                } else if (there == best) {
                    goal = NONE;
                }
            }
            return goal;
        }

        /** The one corner with a mark that is joined, or NONE. */
        int marked(int corner, int m) {
            int goal = NONE;
            int many = 0;
            for (int i = 0; i < at(about, corner); i++) {
                int other = at(order, corner * AROUND + i);
                if (at(mark, other) == m) {
                    goal = other;
                    many++;
                }
            }
            return many == 1 ? goal : NONE;
        }

        /** Where that street leads which lies so many behind the one to another corner, or NONE. */
        int roundFrom(int corner, int other, int steps) {
            int many = at(about, corner);
            int from = at(place, corner * MOST + other);
            if (from == NONE || many < 1) {
                return NONE;
            }
            return at(order, corner * AROUND + Math.floorMod(from + steps, many));
        }
    }

    /** The words of a saying, each by its number. */
    private static final class Saying {
        private static final int MOST = 12;

        private int length;
        private final int[] words = new int[MOST];

        void clear() {
            length = 0;
        }

        void become(Saying other) {
            length = other.length;
            putAll(words, other.words);
        }

        /** Whether there is such a word, and room for it. */
        boolean add(int word) {
            boolean plain = within(word, TAKE + 1) && word != MARK;
            if ((!plain && !within(word - MARKS, MOST_MARK + 1)) || length >= MOST) {
                return false;
            }
            put(words, length, word);
            length++;
            return true;
        }

        int length() {
            return length;
        }

        boolean has(int k) {
            return within(k, length);
        }

        int wordAt(int k) {
            return has(k) ? at(words, k) : NONE;
        }

        int kindAt(int k) {
            switch (wordAt(k)) {
                case UP: case DOWN: return SLOPE;
                case ON: case BACK: return TURNED;
                case HAND: case OTHER: return HANDED;
                case TAKE: return TAKEN;
                default: return MARKED;
            }
        }

        boolean isOne(int k, int kind) {
            int own = kindAt(k);
            return kind == ANY || kind == own || (kind == TURNED && own == HANDED);
        }
    }

    /** A town and a saying as they were once. */
    private static final class Kept {
        private final Town town = new Town();
        private final Saying saying = new Saying();
        private boolean kept;

        boolean isKept() {
            return kept;
        }

        void keep(Town now, Saying said) {
            town.become(now);
            saying.become(said);
            kept = true;
        }

        void giveBack(Town now, Saying said) {
            now.become(town);
            said.become(saying);
        }
    }

    /** One who is led through a town word by word. The street by which he came is known by where it leads back to. */
    private static final class Walker {
        private final Town town;
        private int place, from;
        private boolean handed, raw;
        /** How many streets further on, in the order as the town has it, a hand leads. */
        private int side;

        private Walker(Town town) {
            this.town = town;
        }

        /** A hand is turned with the image in which it was taken: only who goes raw there sees the order turned. */
        void start(int corner, boolean image, boolean goesRaw) {
            stand(corner, NONE, false);
            raw = goesRaw;
            side = goesRaw && image ? -1 : 1;
        }

        void stand(int corner, int cameFrom, boolean hasHand) {
            place = corner;
            from = cameFrom;
            handed = hasHand;
        }

        int place() {
            return place;
        }

        int cameFrom() {
            return from;
        }

        boolean hasHand() {
            return handed;
        }

        /** False: the word fails, and he stays. */
        boolean goBy(int word) {
            if (word == TAKE) {
                boolean well = town.hasWell(place);
                handed = handed || well;
                return well;
            }
            int goal = goalOf(word);
            if (goal == NONE) {
                return false;
            }
            from = place;
            place = goal;
            return true;
        }

        private int goalOf(int word) {
            int streets = town.streetsAt(place);
            switch (word) {
                case UP: return town.steepest(place, 1);
                case DOWN: return town.steepest(place, -1);
                case ON: return streets % 2 == 0 ? town.roundFrom(place, from, streets / 2) : NONE;
                case BACK: return from;
                case HAND: return raw || handed ? town.roundFrom(place, from, side) : NONE;
                case OTHER: return raw || handed ? town.roundFrom(place, from, -side) : NONE;
                default: return town.marked(place, word - MARKS);
            }
        }
    }

    /** Where the saying leads one walker, or two. */
    private static final class Walks {
        private final Saying saying;
        private final Walker one;
        private final Walker two;

        private Walks(Town town, Saying saying) {
            this.saying = saying;
            one = new Walker(town);
            two = new Walker(town);
        }

        /** Leads a walker by the saying, one word left out (or NONE): which word fails, or NONE. */
        int lead(int corner, boolean image, boolean raw, int leftOut) {
            one.start(corner, image, raw);
            for (int k = 0; k < saying.length(); k++) {
                if (k != leftOut && !one.goBy(saying.wordAt(k))) {
                    return k;
                }
            }
            return NONE;
        }

        /** Where the walker is who was led last. */
        int end() {
            return one.place();
        }

        int partingOf(int corner, boolean raw) {
            one.start(corner, false, raw);
            two.start(corner, true, raw);
            for (int k = 0; k < saying.length(); k++) {
                boolean inTown = one.goBy(saying.wordAt(k));
                boolean inImage = two.goBy(saying.wordAt(k));
                if (inTown != inImage || one.place() != two.place()) {
                    return k;
                }
                if (!inTown) {
                    return NONE;
                }
            }
            return NONE;
        }

        int endsWithOneLost(int corner) {
            int ends = 0;
            for (int k = 0; k < saying.length(); k++) {
                if (lead(corner, false, false, k) == NONE) {
                    ends |= 1 << one.place();
                }
            }
            return ends;
        }

        int meeting(int a, int b) {
            if (a == b) {
                return 0;
            }
            one.start(a, false, false);
            two.start(b, false, false);
            for (int k = 0; k < saying.length(); k++) {
                if (!one.goBy(saying.wordAt(k)) || !two.goBy(saying.wordAt(k))) {
                    return NONE;
                }
                if (one.place() == two.place()) {
                    return k + 1;
                }
            }
            return NONE;
        }
    }

    /** Where the words that look at corners alone (up, down, mark M) lead from each corner, and what follows from it. */
    private static final class Goals {
        private static final int PAIRS = Town.MOST * Town.MOST;

        private final Town town;
        private final int[] goal = new int[Town.MOST * PLAIN];
        private final int[] sorted = new int[Town.MOST];
        private final int[] finer = new int[Town.MOST];
        private int classes;
        /** Pairs of corners in the order in which two walkers come there, and behind how many words (NONE: not yet). */
        private final int[] pairs = new int[PAIRS];
        private final int[] wordsTo = new int[PAIRS];
        private int pairsSeen;

        private Goals(Town town) {
            this.town = town;
        }

        int classOf(int corner) {
            return at(sorted, corner);
        }

        int classes() {
            return classes;
        }

        private void look() {
            for (int c = 0; c < town.corners(); c++) {
                put(goal, c * PLAIN, town.steepest(c, 1));
                put(goal, c * PLAIN + 1, town.steepest(c, -1));
                for (int m = 0; m <= MOST_MARK; m++) {
                    put(goal, c * PLAIN + 2 + m, town.marked(c, m));
                }
            }
        }

        private int goalOf(int corner, int word) {
            return at(goal, corner * PLAIN + word);
        }

        /** Each round splits a class or changes nothing, so that as many rounds as corners are enough. */
        void sortIntoClasses() {
            look();
            fill(sorted, 0);
            for (int round = 0; round <= town.corners(); round++) {
                classes = 0;
                for (int c = 0; c < town.corners(); c++) {
                    put(finer, c, finerClassOf(c));
                }
                putAll(sorted, finer);
            }
        }

        private int finerClassOf(int corner) {
            for (int c = 0; c < corner; c++) {
                if (alikeSoFar(c, corner)) {
                    return at(finer, c);
                }
            }
            classes++;
            return classes - 1;
        }

        private boolean alikeSoFar(int a, int b) {
            if (town.markOf(a) != town.markOf(b) || classOf(a) != classOf(b)) {
                return false;
            }
            for (int w = 0; w < PLAIN; w++) {
                if (classOf(goalOf(a, w)) != classOf(goalOf(b, w))) {
                    return false;
                }
            }
            return true;
        }

        int soonestMeeting(int a, int b) {
            if (a == b) {
                return 0;
            }
            look();
            fill(wordsTo, NONE);
            pairsSeen = 0;
            notePair(a, b, 0);
            for (int i = 0; i < pairsSeen && i < PAIRS; i++) {
                int pair = at(pairs, i);
                int behind = at(wordsTo, pair) + 1;
                if (stepOf(pair / Town.MOST, pair % Town.MOST, behind)) {
                    return behind;
                }
            }
            return NONE;
        }

        /** Notes where each word leads two: true if one leads both to the same corner. */
        private boolean stepOf(int a, int b, int behind) {
            for (int w = 0; w < PLAIN; w++) {
                int x = goalOf(a, w);
                int y = goalOf(b, w);
                if (x != NONE && y != NONE) {
                    if (x == y) {
                        return true;
                    }
                    notePair(x, y, behind);
                }
            }
            return false;
        }

        private void notePair(int a, int b, int behind) {
            int pair = a * Town.MOST + b;
            if (at(wordsTo, pair) == NONE) {
                put(wordsTo, pair, behind);
                put(pairs, pairsSeen, pair);
                pairsSeen++;
            }
        }
    }

    /**
     * All that a walker can come to, by fewest words. As what was come to first spreads first, by words in their
     * order, the way noted to each state is, of the shortest ones, the first by words.
     */
    private static final class Search {
        private static final int FROMS = Town.MOST + 1, STATES = Town.MOST * FROMS * 2;

        private final Town town;
        private final Walker walker;
        private final int[] states = new int[STATES];
        private final int[] before = new int[STATES];
        private final int[] by = new int[STATES];
        private final int[] words = new int[STATES];
        private final int[] seen = new int[STATES];
        private int reached;

        private Search(Town town) {
            this.town = town;
            walker = new Walker(town);
        }

        /** Spreads from a corner by the first so many of WAYS. */
        void spread(int corner, int ways) {
            fill(seen, 0);
            reached = 0;
            walker.start(corner, false, false);
            note(NONE, NONE, 0);
            for (int i = 0; i < reached && i < STATES; i++) {
                for (int w = 0; w < ways; w++) {
                    standAt(i);
                    if (walker.goBy(at(WAYS, w))) {
                        note(i, at(WAYS, w), at(words, i) + 1);
                    }
                }
            }
        }

        private void standAt(int i) {
            int state = at(states, i);
            int from = state / 2 % FROMS;
            walker.stand(state / 2 / FROMS, from == 0 ? NONE : from - 1, state % 2 == 1);
        }

        private void note(int earlier, int word, int many) {
            int from = walker.cameFrom() == NONE ? 0 : walker.cameFrom() + 1;
            int state = (walker.place() * FROMS + from) * 2 + (walker.hasHand() ? 1 : 0);
            if (at(seen, state) != 0) {
                return;
            }
            put(seen, state, 1);
            put(states, reached, state);
            put(before, reached, earlier);
            put(by, reached, word);
            put(words, reached, many);
            reached++;
        }

        int firstAt(int corner) {
            for (int i = 0; i < reached; i++) {
                if (cornerAt(i) == corner) {
                    return i;
                }
            }
            return NONE;
        }

        /** Of several wells that are as near, that at the least corner. */
        int firstAtWell() {
            int best = NONE;
            for (int i = 0; i < reached; i++) {
                if (town.hasWell(cornerAt(i)) && (best == NONE || better(i, best))) {
                    best = i;
                }
            }
            return best;
        }

        private boolean better(int i, int best) {
            return at(words, i) == at(words, best) && cornerAt(i) < cornerAt(best);
        }

        int cornerAt(int i) {
            return within(i, reached) ? at(states, i) / 2 / FROMS : NONE;
        }

        int wordsTo(int i) {
            return within(i, reached) ? at(words, i) : NONE;
        }

        int wordOnTheWay(int end, int k) {
            int many = wordsTo(end);
            if (!within(k, many)) {
                return NONE;
            }
            int i = end;
            for (int word = many - 1; word > k; word--) {
                i = at(before, i);
            }
            return at(by, i);
        }
    }

    /**
     * The ways to lay the town upon itself, by orders round (1) or the other way round (-1). Two of them that lay
     * corners 0 .. k - 1 alike differ by a turn that leaves these where they are: behind any beginning that can be
     * finished there are as many ways as such turns, so that they are counted without being gone through.
     */
    private static final class Layings {
        private final Town town;
        /** Where each corner is laid, or NONE. */
        private final int[] on = new int[Town.MOST];
        /** How many turns leave corners 0 .. k - 1 where they are. */
        private final int[] block = new int[Town.MOST + 1];
        private boolean anyImage, counted;

        private Layings(Town town) {
            this.town = town;
        }

        /** To be called when the town has changed. */
        void forget() {
            counted = false;
        }

        /** To be called ahead of what follows. */
        void countAll() {
            if (counted) {
                return;
            }
            fill(on, NONE);
            anyImage = false;
            for (int t = 0; t < town.corners(); t++) {
                anyImage = anyImage || canLay(0, t, -1, 0);
            }
            for (int c = 0; c < town.corners(); c++) {
                put(on, c, c);
            }
            put(block, town.corners(), 1);
            for (int c = town.corners() - 1; c >= 0; c--) {
                put(on, c, NONE);
                int goals = 0;
                for (int t = 0; t < town.corners(); t++) {
                    goals += canLay(c, t, 1, 0) ? 1 : 0;
                }
                put(block, c, goals * at(block, c + 1));
            }
            counted = true;
        }

        int howMany(int round) {
            return round == 1 || anyImage ? at(block, 0) : 0;
        }

        int whereLaid(int round, int i, int corner) {
            if (i >= howMany(round)) {
                return NONE;
            }
            fill(on, NONE);
            int rest = i;
            for (int c = 0; c <= corner && c < town.corners(); c++) {
                for (int t = 0; t < town.corners() && at(on, c) == NONE; t++) {
                    if (canLay(c, t, round, 0)) {
                        if (rest < at(block, c + 1)) {
                            put(on, c, t);
                        } else {
                            rest -= at(block, c + 1);
                        }
                    }
                }
            }
            return at(on, corner);
        }

        int leastMovedByAllImages() {
            fill(on, NONE);
            for (int c = 0; anyImage && c < town.corners(); c++) {
                if (!canLay(c, c, -1, 0)) {
                    return c;
                }
            }
            return NONE;
        }

        /** Whether a corner can be laid on another so that all the others can be laid, too; nothing is laid by it. */
        private boolean canLay(int corner, int t, int round, int depth) {
            if (!fits(corner, t)) {
                return false;
            }
            put(on, corner, t);
            boolean can = ordersAgree(round) && canLayRest(round, depth + 1);
            put(on, corner, NONE);
            return can;
        }

        /** As each round of calls lays one corner more, the depth stays below the number of corners. */
        private boolean canLayRest(int round, int depth) {
            int corner = nextToLay();
            if (corner == NONE) {
                return true;
            }
            for (int t = 0; t < town.corners() && depth <= Town.MOST; t++) {
                if (canLay(corner, t, round, depth)) {
                    return true;
                }
            }
            return false;
        }

        /** A corner that is joined to one that is laid goes first: there the order leaves one place at most. */
        private int nextToLay() {
            int least = NONE;
            for (int c = town.corners() - 1; c >= 0; c--) {
                if (at(on, c) == NONE) {
                    least = c;
                    for (int i = 0; i < town.streetsAt(c); i++) {
                        if (at(on, town.neighbour(c, i)) != NONE) {
                            return c;
                        }
                    }
                }
            }
            return least;
        }

        private boolean fits(int corner, int t) {
            if (town.heightOf(corner) != town.heightOf(t) || town.markOf(corner) != town.markOf(t)
                || town.hasWell(corner) != town.hasWell(t) || town.streetsAt(corner) != town.streetsAt(t)) {
                return false;
            }
            for (int c = 0; c < town.corners(); c++) {
                int there = at(on, c);
                if (there != NONE && (there == t || town.joined(corner, c) != town.joined(t, there))) {
                    return false;
                }
            }
            return true;
        }

        /** Whether about each laid corner those that are laid lie as far round from the first of them as they should. */
        private boolean ordersAgree(int round) {
            for (int c = 0; c < town.corners(); c++) {
                int first = NONE;
                for (int i = 0; i < town.streetsAt(c) && at(on, c) != NONE; i++) {
                    int there = at(on, town.neighbour(c, i));
                    if (there != NONE && first == NONE) {
                        first = i;
                    }
                    int firstThere = at(on, town.neighbour(c, first));
                    if (there != NONE && there != town.roundFrom(at(on, c), firstThere, round * (i - first))) {
                        return false;
                    }
                }
            }
            return true;
        }
    }

    /**
     * What is asked of a word of the saying. Bodies are named by their numbers; one that is told for a kind and
     * asks on calls what begins for that kind outright, so that no ask can come round to itself.
     */
    private static final class Asks {
        private static final int MOST = 16;

        private final Saying saying;
        private int asked, word, kind;
        private final int[] numbers = new int[MOST];
        private int many;

        private Asks(Saying saying) {
            this.saying = saying;
        }

        int left(int i) {
            return within(i, many) ? at(numbers, i) : NONE;
        }

        void begin(int k) {
            asked = k;
            word = saying.wordAt(k);
            kind = saying.kindAt(k);
            many = 0;
        }

        private void leave(int number) {
            if (many >= 0 && many < numbers.length) {
                numbers[many] = number;
                many++;
            }
        }

        int sizeOfAsked() {
            switch (kind) {
                case SLOPE: return body11();
                case TURNED: return body12();
                case HANDED: return body13();
                case TAKEN: return body14();
                default: return body10();
            }
        }

        int markOfAsked() {
            switch (kind) {
                case MARKED: return body21();
                case HANDED: return body22();
                case TAKEN: return body23();
                default: return body20();
            }
        }

        private int body10() {
            leave(10);
            return asked;
        }

        private int body11() {
            leave(11);
            int lent = body10();
            return lent + body20();
        }

        private int body12() {
            leave(12);
            int lent = body10();
            return lent - (kind == HANDED ? body22() : body20());
        }

        private int body13() {
            leave(13);
            return 2 * body12();
        }

        private int body14() {
            leave(14);
            return -body10();
        }

        private int body20() {
            leave(20);
            return word >= MARKS ? MARK : word;
        }

        private int body21() {
            leave(21);
            return body20() + 10 * (word - MARKS);
        }

        private int body22() {
            leave(22);
            return body20() + 100;
        }

        private int body23() {
            leave(23);
            int lent = body20();
            return lent + body14();
        }
    }
}
