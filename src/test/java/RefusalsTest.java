import java.util.LinkedHashMap;
import java.util.List;
import java.util.Map;

/**
 * "What is refused, or found, changes nothing but status()": behind each call, all that an object holds is read out
 * and compared with what one like it holds that the call was not made on. So for calls that only ask, and for those
 * that change one thing: all else has to stay.
 */
final class RefusalsTest {
    private static final int NONE = -1000000, BAD = -1000001, STATE = -1000002, FULL = -1000003;
    private static final int NULL = -1000011, PLACE = -1000012, KIND = -1000013, SIZE = -1000014, STORE = -1000015;
    private static final int MIN = Integer.MIN_VALUE, MAX = Integer.MAX_VALUE;

    private interface Call {
        int on(SidelessTown x);
    }

    private interface Maker {
        SidelessTown make(int status);
    }

    public static void main(String[] args) {
        rowsRefused();
        textsRefused();
        townRefused();
        walksRefused();
        imagesRefused();
        asksRefused();
        withoutTown();
        withoutSaying();
        tapeFull();
        faults();
        asking();
        changing();
        statusOfCalls();
        Check.end();
    }

    // ---- objects that hold something of all there is

    private static final int[] SIZES = {3, 2, 5, 0};

    /** Rows 0 to 3 (bytes, shorts, ints, ints without items; item 4 of row 2 is no word); 4 to 7 are missing. */
    private static void makeRows(SidelessTown x) {
        for (int row = 0; row < SIZES.length; row++) {
            x.row(row, Math.min(row, 2), SIZES[row]);
            for (int i = 0; i < SIZES[row]; i++) {
                x.set(row, i, 20 + row + i);
            }
        }
        x.set(2, 4, 2);
    }

    /** Makes the latest finding that of a status, 0 to 5. */
    private static SidelessTown withStatus(SidelessTown x, int status) {
        switch (status) {
            case 0: x.set(0, 0, 20); break;
            case 1: x.drop(4); break;
            case 2: x.set(0, 3, 0); break;
            case 3: x.as(0, 5); break;
            case 4: x.row(0, 0, -1); break;
            default: x.copy(0, 0, 1, 0, 1);
        }
        Check.due("status of the object", x.status(), status);
        return x;
    }

    /** All: two images, then another town and saying, a fault, a trace, a tape begun. */
    private static SidelessTown full(int status) {
        SidelessTown x = new SidelessTown();
        makeRows(x);
        Check.town(x, "corner 1 1;corner 2 2 well;street 1 0;");
        Check.say(x, "up;");
        x.image(0);
        Check.town(x, "corner 4 0;corner 5 1;corner 5 1;corner 5 1;street 0 1;street 0 2;street 0 3;");
        Check.say(x, "mark 1 back back;");
        x.image(1);
        Check.town(x, "corner 7 1;corner 8 1 well;corner 9 1;corner 8 1;street 0 1;street 2 1;street 2 3;street 0 3;");
        Check.say(x, "up mark 3 back hand take;");
        Check.town(x, "corner 100 1;");
        x.ask(3, 0);
        Check.feed(x, "up dow");
        return withStatus(x, status);
    }

    private static SidelessTown townless(int status) {
        SidelessTown x = new SidelessTown();
        makeRows(x);
        Check.say(x, "up mark 3 back hand take;");
        x.ask(3, 0);
        Check.feed(x, "up dow");
        return withStatus(x, status);
    }

    private static SidelessTown sayingless(int status) {
        SidelessTown x = new SidelessTown();
        makeRows(x);
        Check.town(x, "corner 7 1;corner 8 1 well;corner 9 1;street 0 1;street 2 1;");
        Check.feed(x, "up dow");
        return withStatus(x, status);
    }

    private static SidelessTown withTapeOf396(int status) {
        SidelessTown x = full(status);
        for (int i = 0; i < 48; i++) {
            x.feed(0x2020202020202020L, 8);
        }
        Check.due("bytes on the tape", x.feed(0x20202020202020L, 6), 396);
        return x;
    }

    /** All that an object holds but its status; it is not the same behind that. */
    private static Map<String, Integer> readOut(SidelessTown x) {
        Map<String, Integer> all = new LinkedHashMap<>();
        all.put("rows", x.count(0));
        all.put("tape", x.count(5));
        all.put("fault", x.fault());
        for (int i = 0; i <= 6; i++) {
            all.put("trace " + i, x.trace(i));
        }
        readTown(all, "town", x);
        readSaying(all, "saying", x);
        for (int k = 0; k <= 1; k++) {
            all.put("image " + k, x.restore(k));
            readTown(all, "image " + k + " town", x);
            readSaying(all, "image " + k + " saying", x);
        }
        Check.feed(x, "n;");
        all.put("tape read", x.say());
        readSaying(all, "tape read", x);
        for (int row = 0; row < 8; row++) {
            readRow(all, row, x);
        }
        return all;
    }

    private static void readTown(Map<String, Integer> all, String name, SidelessTown x) {
        for (int what = 1; what <= 3; what++) {
            all.put(name + " count " + what, x.count(what));
        }
        for (int c = 0; c < x.count(1); c++) {
            for (int what = 0; what <= 13; what += what == 3 ? 7 : 1) {
                all.put(name + " corner " + c + " " + what, x.corner(c, what));
            }
        }
        all.put(name + " turns", x.laid(0, -1, 0));
        all.put(name + " images", x.laid(1, -1, 0));
        all.put(name + " ends", x.ends());
    }

    private static void readSaying(Map<String, Integer> all, String name, SidelessTown x) {
        all.put(name + " words", x.count(4));
        for (int k = 0; k <= x.count(4); k++) {
            all.put(name + " word " + k, x.word(k));
        }
    }

    private static void readRow(Map<String, Integer> all, int row, SidelessTown x) {
        String name = "row " + row;
        for (int i = 0; row < SIZES.length && i < SIZES[row]; i++) {
            all.put(name + " item " + i, x.words(row, i, 1) == 1 ? x.word(0) : BAD);
        }
        all.put(name + " lane", x.set(row, 0, 0x12345678));
        all.put(name + " items", x.drop(row));
    }

    // ---- comparing

    private static boolean begins(String key, String... beginnings) {
        return List.of(beginnings).stream().anyMatch(key::startsWith);
    }

    /** All that does not begin with the names that are told has to be as it was. */
    private static void compare(String call, Map<String, Integer> is, Map<String, Integer> was, String... but) {
        for (String key : was.keySet()) {
            if (!begins(key, but)) {
                Check.holds(call + " leaves " + key, was.get(key).equals(is.get(key)));
            }
        }
        for (String key : is.keySet()) {
            Check.holds(call + " brings no " + key, was.containsKey(key) || begins(key, but));
        }
    }

    private static void refused(String name, Maker maker, int want, Call call) {
        for (int status = 0; status <= 5; status += 5) {
            SidelessTown x = maker.make(status);
            Check.due(name, call.on(x), want);
            boolean finding = want <= NULL && want >= STORE;
            Check.due("status() behind " + name, x.status(), finding ? -1000010 - want : status);
            compare(name, readOut(x), readOut(maker.make(status)));
        }
    }

    private static void refused(String name, int want, Call call) {
        refused(name, RefusalsTest::full, want, call);
    }

    // ---- what is refused

    private static void rowsRefused() {
        for (int row : new int[] {-1, 8, MIN, MAX}) {
            refused("row(" + row + ", 0, 1)", BAD, x -> x.row(row, 0, 1));
            refused("set(" + row + ", 0, 1)", BAD, x -> x.set(row, 0, 1));
            refused("copy(" + row + ", 0, 0, 0, 1)", BAD, x -> x.copy(row, 0, 0, 0, 1));
            refused("copy(0, 0, " + row + ", 0, 1)", BAD, x -> x.copy(0, 0, row, 0, 1));
            refused("drop(" + row + ")", BAD, x -> x.drop(row));
            refused("words(" + row + ", 0, 1)", BAD, x -> x.words(row, 0, 1));
            refused("row(" + row + ", 0, -1): BAD goes first", BAD, x -> x.row(row, 0, -1));
            refused("set(" + row + ", -1, 1): BAD goes first", BAD, x -> x.set(row, -1, 1));
            refused("copy(" + row + ", 9, 4, 9, 9): BAD goes first", BAD, x -> x.copy(row, 9, 4, 9, 9));
            refused("copy(4, 9, " + row + ", 9, 9): BAD goes first", BAD, x -> x.copy(4, 9, row, 9, 9));
        }
        for (int lane : new int[] {-1, 3, MIN, MAX}) {
            refused("row(0, " + lane + ", 1)", BAD, x -> x.row(0, lane, 1));
            refused("row(0, " + lane + ", -1): BAD goes first", BAD, x -> x.row(0, lane, -1));
        }
        for (int n : new int[] {41, MAX}) {
            refused("row(0, 0, " + n + ")", BAD, x -> x.row(0, 0, n));
            refused("row(4, 2, " + n + ")", BAD, x -> x.row(4, 2, n));
        }
        for (int n : new int[] {-1, MIN}) {
            refused("row(0, 0, " + n + ")", SIZE, x -> x.row(0, 0, n));
            refused("row(4, 2, " + n + ")", SIZE, x -> x.row(4, 2, n));
            refused("copy(0, 0, 0, 0, " + n + ")", PLACE, x -> x.copy(0, 0, 0, 0, n));
            refused("copy(0, 3, 0, 3, " + n + ")", PLACE, x -> x.copy(0, 3, 0, 3, n));
        }
        missingRows();
        places();
    }

    private static void missingRows() {
        for (int row = 4; row < 8; row++) {
            int missing = row;
            refused("set of a missing row", NULL, x -> x.set(missing, 0, 1));
            refused("set of a missing row, PLACE behind", NULL, x -> x.set(missing, -1, 1));
            refused("copy from a missing row", NULL, x -> x.copy(missing, 0, 0, 0, 1));
            refused("copy to a missing row", NULL, x -> x.copy(0, 0, missing, 0, 1));
            refused("copy of a missing row upon itself", NULL, x -> x.copy(missing, 0, missing, 0, 0));
            refused("copy of a missing row, PLACE behind", NULL, x -> x.copy(missing, -1, 0, -1, -1));
            refused("drop of a missing row", NULL, x -> x.drop(missing));
            refused("words of a missing row", NULL, x -> x.words(missing, 0, 0));
            refused("words of a missing row, PLACE behind", NULL, x -> x.words(missing, -1, 12));
        }
    }

    private static void places() {
        for (int i : new int[] {-1, 3, 40, MIN, MAX}) {
            refused("set(0, " + i + ", 1)", PLACE, x -> x.set(0, i, 1));
            refused("copy(0, " + i + ", 0, 0, 1)", PLACE, x -> x.copy(0, i, 0, 0, 1));
            refused("copy(0, 0, 0, " + i + ", 1)", PLACE, x -> x.copy(0, 0, 0, i, 1));
            refused("words(0, " + i + ", 1)", PLACE, x -> x.words(0, i, 1));
        }
        for (int i : new int[] {-1, 4, MIN, MAX}) {
            refused("copy(0, " + i + ", 0, 0, 0)", PLACE, x -> x.copy(0, i, 0, 0, 0));
            refused("copy(0, 0, 0, " + i + ", 0)", PLACE, x -> x.copy(0, 0, 0, i, 0));
            refused("words(0, " + i + ", 0)", PLACE, x -> x.words(0, i, 0));
        }
        for (int i = 0; i <= 3; i++) {
            int from = i, beyond = 4 - i;
            refused("copy beyond the end of a", PLACE, x -> x.copy(0, from, 0, 0, beyond));
            refused("copy beyond the end of b", PLACE, x -> x.copy(0, 0, 0, from, beyond));
            refused("words beyond the end", PLACE, x -> x.words(0, from, beyond));
        }
        refused("set of a row without items", PLACE, x -> x.set(3, 0, 0));
        refused("copy to a row without items", PLACE, x -> x.copy(2, 0, 3, 0, 1));
        refused("copy from a row without items", PLACE, x -> x.copy(3, 0, 2, 0, 1));
        refused("copy(0, 0, 0, 0, max)", PLACE, x -> x.copy(0, 0, 0, 0, MAX));
        refused("copy(0, max, 0, max, max)", PLACE, x -> x.copy(0, MAX, 0, MAX, MAX));
        int[][] lanes = {{0, 1}, {1, 0}, {0, 2}, {2, 0}, {1, 2}, {2, 1}, {0, 3}, {3, 1}};
        for (int[] l : lanes) {
            refused("copy between two lanes", STORE, x -> x.copy(l[0], 0, l[1], 0, 1));
            refused("copy of none between two lanes", STORE, x -> x.copy(l[0], 0, l[1], 0, 0));
            refused("copy between two lanes, PLACE behind", STORE, x -> x.copy(l[0], -1, l[1], 99, -1));
        }
    }

    private static void textsRefused() {
        for (int n : new int[] {0, -1, 9, MIN, MAX}) {
            refused("feed(0, " + n + ")", BAD, x -> x.feed(0, n));
        }
        for (int n : new int[] {-1, 13, MIN, MAX}) {
            refused("words(0, 0, " + n + ")", BAD, x -> x.words(0, 0, n));
            refused("words(4, -1, " + n + "): BAD goes first", BAD, x -> x.words(4, -1, n));
        }
        refused("words(2, 4, 1): an item that is no word", BAD, x -> x.words(2, 4, 1));
        refused("words(2, 0, 5): an item that is no word, the last", BAD, x -> x.words(2, 0, 5));
        refused("words(2, 4, 2): PLACE goes ahead of the item", PLACE, x -> x.words(2, 4, 2));
        refused("word(-1)", BAD, x -> x.word(-1));
        refused("word(min)", BAD, x -> x.word(MIN));
    }

    private static final int[] NO_CORNERS = {-1, 4, 8, MIN, MAX, NONE};
    private static final int[] NO_BITS = {-1, 2, MIN, MAX};

    private static void townRefused() {
        for (int c : NO_CORNERS) {
            refused("corner(" + c + ", 0)", BAD, x -> x.corner(c, 0));
            refused("corner(" + c + ", 10)", BAD, x -> x.corner(c, 10));
            refused("mark(" + c + ", 5)", BAD, x -> x.mark(c, 5));
        }
        for (int what : new int[] {-1, 4, 9, 16, MIN, MAX}) {
            refused("corner(0, " + what + ")", BAD, x -> x.corner(0, what));
        }
        for (int m : new int[] {-1, 10, MIN, MAX}) {
            refused("mark(0, " + m + ")", BAD, x -> x.mark(0, m));
        }
    }

    private static void walksRefused() {
        for (int c : NO_CORNERS) {
            refused("walk(" + c + ", 0, 0, 0)", BAD, x -> x.walk(c, 0, 0, 0));
            refused("parts(" + c + ", 0)", BAD, x -> x.parts(c, 0));
            refused("apart(" + c + ", 0)", BAD, x -> x.apart(c, 0));
            refused("apart(" + c + ", 1)", BAD, x -> x.apart(c, 1));
            refused("shortest(" + c + ", 0, 0, -1)", BAD, x -> x.shortest(c, 0, 0, -1));
            refused("shortest(0, " + c + ", 1, 0)", BAD, x -> x.shortest(0, c, 1, 0));
            refused("shortest(" + c + ", " + c + ", 0, 0)", BAD, x -> x.shortest(c, c, 0, 0));
            refused("soonest(" + c + ", 1)", BAD, x -> x.soonest(c, 1));
            refused("laid(0, 0, " + c + ")", BAD, x -> x.laid(0, 0, c));
            refused("laid(1, -1, " + c + ")", BAD, x -> x.laid(1, -1, c));
            refused("lost(" + c + ")", BAD, x -> x.lost(c));
            refused("meet(" + c + ", 0, 0)", BAD, x -> x.meet(c, 0, 0));
            refused("meet(0, " + c + ", 1)", BAD, x -> x.meet(0, c, 1));
            refused("meet(" + c + ", " + c + ", 0)", BAD, x -> x.meet(c, c, 0));
        }
        for (int b : NO_BITS) {
            refused("walk(0, " + b + ", 0, 0)", BAD, x -> x.walk(0, b, 0, 0));
            refused("walk(0, 0, " + b + ", 0)", BAD, x -> x.walk(0, 0, b, 0));
            refused("walk(0, 0, 0, " + b + ")", BAD, x -> x.walk(0, 0, 0, b));
            refused("parts(0, " + b + ")", BAD, x -> x.parts(0, b));
            refused("apart(0, " + b + ")", BAD, x -> x.apart(0, b));
            refused("shortest(0, 1, " + b + ", 0)", BAD, x -> x.shortest(0, 1, b, 0));
            refused("soonest(0, " + b + ")", BAD, x -> x.soonest(0, b));
            refused("laid(" + b + ", 0, 0)", BAD, x -> x.laid(b, 0, 0));
            refused("laid(" + b + ", -1, 0)", BAD, x -> x.laid(b, -1, 0));
            refused("meet(0, 1, " + b + ")", BAD, x -> x.meet(0, 1, b));
            refused("meet(0, 0, " + b + ")", BAD, x -> x.meet(0, 0, b));
        }
        for (int k : new int[] {-2, MIN, NONE}) {
            refused("shortest(0, 1, 0, " + k + ")", BAD, x -> x.shortest(0, 1, 0, k));
            refused("laid(0, " + k + ", 0)", BAD, x -> x.laid(0, k, 0));
        }
        for (int n : new int[] {0, -1, 9, MIN, MAX}) {
            refused("gloves(" + n + ", 1, 0)", BAD, x -> x.gloves(n, 1, 0));
            refused("gloves(8, " + n + ", 1)", BAD, x -> x.gloves(8, n, 1));
        }
        for (int what : new int[] {-1, 3, MIN, MAX}) {
            refused("gloves(1, 1, " + what + ")", BAD, x -> x.gloves(1, 1, what));
        }
    }

    private static void imagesRefused() {
        for (int k : NO_BITS) {
            refused("image(" + k + ")", BAD, x -> x.image(k));
            refused("restore(" + k + ")", BAD, x -> x.restore(k));
            refused("image(" + k + ") without a town: BAD goes first", RefusalsTest::townless, BAD, x -> x.image(k));
            refused("restore(" + k + ") of none: BAD goes first", RefusalsTest::townless, BAD, x -> x.restore(k));
        }
    }

    private static void asksRefused() {
        for (int k : new int[] {-1, 5, 12, MIN, MAX}) {
            refused("kind(" + k + ")", BAD, x -> x.kind(k));
            refused("as(" + k + ", 0)", BAD, x -> x.as(k, 0));
            refused("ask(" + k + ", 0)", BAD, x -> x.ask(k, 0));
            refused("ask(" + k + ", 1)", BAD, x -> x.ask(k, 1));
        }
        for (int kind : new int[] {-1, 6, MIN, MAX}) {
            refused("as(0, " + kind + ")", BAD, x -> x.as(0, kind));
        }
        int[][] others = {{0, 2}, {0, 3}, {0, 4}, {0, 5}, {1, 1}, {1, 3}, {1, 4}, {1, 5}, {2, 1}, {2, 2}, {2, 4},
            {2, 5}, {3, 1}, {3, 2}, {3, 5}, {4, 1}, {4, 2}, {4, 3}, {4, 4}};
        for (int[] o : others) {
            refused("as(" + o[0] + ", " + o[1] + ")", KIND, x -> x.as(o[0], o[1]));
        }
        for (int b : NO_BITS) {
            refused("ask(0, " + b + ")", BAD, x -> x.ask(0, b));
        }
        for (int what : new int[] {-1, 6, MIN, MAX}) {
            refused("count(" + what + ")", BAD, x -> x.count(what));
        }
    }

    private static void townlessly(String name, int want, Call call) {
        refused(name + " without a town", RefusalsTest::townless, want, call);
    }

    private static void withoutTown() {
        for (int c : new int[] {0, 1, 7, -1}) {
            townlessly("corner(" + c + ", 0)", BAD, x -> x.corner(c, 0));
            townlessly("corner(" + c + ", 10)", BAD, x -> x.corner(c, 10));
            townlessly("mark(" + c + ", 0)", BAD, x -> x.mark(c, 0));
            townlessly("walk(" + c + ", 0, 0, 1)", BAD, x -> x.walk(c, 0, 0, 1));
            townlessly("walk(" + c + ", 1, 1, 0)", BAD, x -> x.walk(c, 1, 1, 0));
            townlessly("parts(" + c + ", 1)", BAD, x -> x.parts(c, 1));
            townlessly("apart(" + c + ", 0)", BAD, x -> x.apart(c, 0));
            townlessly("apart(" + c + ", 1)", BAD, x -> x.apart(c, 1));
            townlessly("shortest(" + c + ", " + c + ", 0, -1)", BAD, x -> x.shortest(c, c, 0, -1));
            townlessly("soonest(" + c + ", 0)", BAD, x -> x.soonest(c, 0));
            townlessly("laid(0, -1, " + c + ")", BAD, x -> x.laid(0, -1, c));
            townlessly("laid(1, 0, " + c + ")", BAD, x -> x.laid(1, 0, c));
            townlessly("lost(" + c + ")", BAD, x -> x.lost(c));
            townlessly("meet(" + c + ", " + c + ", 0)", BAD, x -> x.meet(c, c, 0));
            townlessly("meet(" + c + ", " + c + ", 1)", BAD, x -> x.meet(c, c, 1));
        }
        townlessly("ends()", STATE, SidelessTown::ends);
        for (int k = 0; k <= 1; k++) {
            int image = k;
            townlessly("image(" + k + ")", STATE, x -> x.image(image));
            townlessly("restore(" + k + ")", STATE, x -> x.restore(image));
        }
    }

    private static void withoutSaying() {
        for (int k : new int[] {0, 1, 11, -1}) {
            unsaid("kind(" + k + ")", BAD, x -> x.kind(k));
            unsaid("as(" + k + ", 0)", BAD, x -> x.as(k, 0));
            unsaid("ask(" + k + ", 0)", BAD, x -> x.ask(k, 0));
            unsaid("word(" + k + ")", k < 0 ? BAD : NONE, x -> x.word(k));
        }
        for (int c = 0; c < 3; c++) {
            int corner = c;
            for (int image = 0; image <= 1; image++) {
                int i = image;
                for (int raw = 0; raw <= 1; raw++) {
                    int r = raw;
                    unsaid("walk", c, x -> x.walk(corner, i, r, 0));
                    unsaid("walk fails", NONE, x -> x.walk(corner, i, r, 1));
                    unsaid("parts", NONE, x -> x.parts(corner, r));
                }
            }
            unsaid("lost", 0, x -> x.lost(corner));
            unsaid("meet", 0, x -> x.meet(corner, corner, 0));
            unsaid("meet of two", NONE, x -> x.meet(corner, (corner + 1) % 3, 0));
        }
        unsaid("count(4)", 0, x -> x.count(4));
    }

    private static void unsaid(String name, int want, Call call) {
        for (int status = 0; status <= 5; status += 5) {
            SidelessTown x = sayingless(status);
            Check.due(name + " without a saying", call.on(x), want);
            Check.due("status() behind " + name + " without a saying", x.status(), status);
            compare(name + " without a saying", readOut(x), readOut(sayingless(status)));
        }
    }

    private static void tapeFull() {
        for (int n = 5; n <= 8; n++) {
            int bytes = n;
            refused("feed(';', " + n + ") to 396 bytes", RefusalsTest::withTapeOf396, FULL, x -> x.feed(';', bytes));
        }
        refused("feed(';', 9): BAD goes first", RefusalsTest::withTapeOf396, BAD, x -> x.feed(';', 9));
        for (int n = 1; n <= 4; n++) {
            SidelessTown x = withTapeOf396(0);
            Check.due("feed of " + n + " to 396 bytes", x.feed(0x20202020, n), 396 + n);
            Check.due("feed of one too many", x.feed(0x20202020, 5 - n), FULL);
            Check.due("feed of as many as there is room for", x.feed(0x202020, 4 - n), n < 4 ? 400 : BAD);
            Check.due("feed of one to 400 bytes", x.feed(' ', 1), FULL);
            Check.due("bytes on the tape", x.count(5), 400);
        }
    }

    // ---- what asks, what changes

    private static void changesOnly(String name, Maker maker, int want, Call call, String... changed) {
        for (int status = 0; status <= 5; status += 5) {
            SidelessTown x = maker.make(status);
            Check.due(name, call.on(x), want);
            compare(name, readOut(x), readOut(maker.make(status)), changed);
        }
    }

    private static void faults() {
        for (String text : new String[] {"", " corner 0 0;", "n mark 10;", "\u0000"}) {
            changesOnly("town() of a fault", RefusalsTest::full, -1000100, x -> {
                Check.feed(x, text);
                return x.town();
            }, "tape", "fault");
        }
        changesOnly("say() of a fault at 3", RefusalsTest::full, -1000103, x -> {
            Check.feed(x, ";");
            return x.say();
        }, "tape", "fault");
        changesOnly("say() of a fault behind all words", RefusalsTest::full, -1000108, x -> {
            Check.feed(x, "n;;");
            return x.say();
        }, "tape", "fault");
        changesOnly("say() of a number that is not as told", RefusalsTest::full, -1000112, x -> {
            Check.feed(x, "n mark100;");
            return x.say();
        }, "tape", "fault");
        for (int status = 0; status <= 5; status++) {
            SidelessTown x = full(status);
            x.town();
            x.say();
            Check.due("status() behind faults", x.status(), status);
            Check.due("fault() behind them", x.fault(), 1);
            Check.due("tape behind them", x.count(5), 0);
        }
    }

    private static void asks(String name, int want, Call call) {
        changesOnly(name, RefusalsTest::full, want, call);
        for (int status = 0; status <= 5; status++) {
            SidelessTown x = full(status);
            call.on(x);
            Check.due("status() behind " + name, x.status(), status);
        }
    }

    /** Calls that only ask: what they answer here does not matter much, but that they leave all as it was. */
    private static void asking() {
        asks("fault()", 2, SidelessTown::fault);
        asks("corner(1, 2)", 1, x -> x.corner(1, 2));
        asks("corner(1, 12)", NONE, x -> x.corner(1, 12));
        asks("word(1)", 23, x -> x.word(1));
        asks("word(5)", NONE, x -> x.word(5));
        asks("walk(0, 0, 0, 1)", 0, x -> x.walk(0, 0, 0, 1));
        asks("walk(0, 1, 1, 0)", 0, x -> x.walk(0, 1, 1, 0));
        asks("parts(0, 1)", NONE, x -> x.parts(0, 1));
        asks("apart(3, 0)", 1, x -> x.apart(3, 0));
        asks("apart(3, 1)", 2, x -> x.apart(3, 1));
        asks("shortest(1, 0, 1, -1)", 1, x -> x.shortest(1, 0, 1, -1));
        asks("shortest(1, 0, 1, 0)", 1, x -> x.shortest(1, 0, 1, 0));
        asks("shortest(1, 0, 1, 1)", NONE, x -> x.shortest(1, 0, 1, 1));
        asks("shortest(1, 1, 0, -1)", 0, x -> x.shortest(1, 1, 0, -1));
        asks("soonest(1, 1)", 1, x -> x.soonest(1, 1));
        asks("laid(0, -1, 3)", 1, x -> x.laid(0, -1, 3));
        asks("laid(1, 0, 3)", 3, x -> x.laid(1, 0, 3));
        asks("laid(1, 1, 3)", NONE, x -> x.laid(1, 1, 3));
        asks("ends()", NONE, SidelessTown::ends);
        asks("lost(0)", 0, x -> x.lost(0));
        asks("meet(1, 3, 0)", 1, x -> x.meet(1, 3, 0));
        asks("meet(1, 3, 1)", 1, x -> x.meet(1, 3, 1));
        asks("gloves(3, 1, 1)", 11, x -> x.gloves(3, 1, 1));
        asks("kind(3)", 4, x -> x.kind(3));
        asks("trace(0)", 13, x -> x.trace(0));
        asks("trace(5)", NONE, x -> x.trace(5));
        asks("trace(-1)", NONE, x -> x.trace(-1));
        for (int what = 0; what <= 5; what++) {
            int w = what;
            asks("count(" + what + ")", new int[] {4, 4, 4, 1, 5, 6}[what], x -> x.count(w));
        }
        changesOnly("as(3, 3)", RefusalsTest::full, 5, x -> x.as(3, 3));
        changesOnly("copy(0, 3, 0, 3, 0)", RefusalsTest::full, 0, x -> x.copy(0, 3, 0, 3, 0));
        changesOnly("copy(2, 1, 2, 1, 4)", RefusalsTest::full, 4, x -> x.copy(2, 1, 2, 1, 4));
    }

    private static void changing() {
        Maker full = RefusalsTest::full;
        changesOnly("row(0, 2, 3)", full, 3, x -> x.row(0, 2, 3), "row 0");
        changesOnly("row(4, 0, 0)", full, 0, x -> x.row(4, 0, 0), "rows", "row 4");
        changesOnly("set(2, 1, 7)", full, 7, x -> x.set(2, 1, 7), "row 2 item 1");
        changesOnly("copy(2, 0, 2, 1, 2)", full, 2, x -> x.copy(2, 0, 2, 1, 2), "row 2 item 1", "row 2 item 2");
        changesOnly("copy(2, 2, 2, 1, 2)", full, 2, x -> x.copy(2, 2, 2, 1, 2), "row 2 item 1", "row 2 item 2");
        changesOnly("drop(1)", full, 2, x -> x.drop(1), "rows", "row 1");
        changesOnly("feed(' ', 1)", full, 7, x -> x.feed(' ', 1), "tape");
        changesOnly("words(0, 0, 3)", full, 3, x -> x.words(0, 0, 3), "saying");
        changesOnly("words(3, 0, 0)", full, 0, x -> x.words(3, 0, 0), "saying");
        changesOnly("mark(2, 5)", full, 1, x -> x.mark(2, 5), "town corner 2 1", "town turns", "town images");
        changesOnly("mark(2, 1)", full, 1, x -> x.mark(2, 1));
        changesOnly("image(0)", full, 1, x -> x.image(0), "image 0");
        changesOnly("image(1)", full, 1, x -> x.image(1), "image 1");
        changesOnly("restore(0)", full, 1, x -> x.restore(0), "town", "saying");
        changesOnly("restore(1)", full, 1, x -> x.restore(1), "town", "saying");
        changesOnly("ask(0, 1)", full, 0, x -> x.ask(0, 1), "trace");
        changesOnly("say()", full, 2, x -> {
            Check.feed(x, "n;");
            return x.say();
        }, "tape", "saying");
        // The tape of a full one begins with "up dow", which is no town: it is emptied first, by a fault.
        changesOnly("town()", full, 2, x -> {
            x.town();
            Check.feed(x, "corner 1 1;corner 1 1;street 0 1;");
            return x.town();
        }, "tape", "town", "fault");
    }

    /** Calls with a ROW, and as(), that find nothing make it 0; all others leave it. */
    private static void statusOfCalls() {
        Map<String, Call> clearing = new LinkedHashMap<>();
        clearing.put("row", x -> x.row(5, 1, 1));
        clearing.put("set", x -> x.set(0, 0, 0));
        clearing.put("copy", x -> x.copy(0, 0, 0, 1, 1));
        clearing.put("copy of none", x -> x.copy(0, 3, 0, 3, 0));
        clearing.put("drop", x -> x.drop(0));
        clearing.put("words", x -> x.words(0, 0, 1));
        clearing.put("words, none", x -> x.words(0, 3, 0));
        clearing.put("as", x -> x.as(0, 0));
        Map<String, Call> leaving = new LinkedHashMap<>();
        leaving.put("image", x -> x.image(0));
        leaving.put("restore", x -> x.restore(0));
        leaving.put("mark", x -> x.mark(0, 0));
        leaving.put("feed", x -> x.feed(' ', 1));
        leaving.put("ask", x -> x.ask(0, 0));
        leaving.put("status", SidelessTown::status);
        for (int status = 0; status <= 5; status++) {
            for (String name : clearing.keySet()) {
                SidelessTown x = full(status);
                clearing.get(name).on(x);
                Check.due("status() behind " + name, x.status(), 0);
            }
            for (String name : leaving.keySet()) {
                SidelessTown x = full(status);
                leaving.get(name).on(x);
                Check.due("status() behind " + name, x.status(), status);
            }
            SidelessTown x = full(status);
            Check.feed(x, "n;");
            Check.due("say()", x.say(), 2);
            Check.due("town()", Check.town(x, "corner 1 1;corner 1 1;street 0 1;"), 2);
            Check.due("status() behind texts that are read", x.status(), status);
        }
    }
}
