import java.math.BigInteger;
import java.util.ArrayList;
import java.util.Arrays;
import java.util.List;
import java.util.TreeSet;

/**
 * The document once more, for tests alone: by the Java library, by trying all there is, and by other ways than
 * the program goes where there are others, so that the two can be compared.
 */
final class Model {
    static final int NONE = -1000000, BAD = -1000001, STATE = -1000002, FULL = -1000003;

    /** One of two joined corners' streets is known by the other corner. */
    static final class Place {
        final int height;
        int mark;
        final boolean well;
        final List<Integer> streets = new ArrayList<>();

        Place(int height, int mark, boolean well) {
            this.height = height;
            this.mark = mark;
            this.well = well;
        }

        Place again() {
            Place p = new Place(height, mark, well);
            p.streets.addAll(streets);
            return p;
        }
    }

    @SuppressWarnings("serial")
    static final class Fault extends Exception {
        final int number, place;

        Fault(int number, int place) {
            this.number = number;
            this.place = place;
        }
    }

    record Token(String text, int at) { }

    private final Object[] rows = new Object[8];
    private final StringBuilder tape = new StringBuilder();
    List<Place> places = List.of();
    List<Integer> saying = List.of();
    private final List<List<Place>> keptPlaces = new ArrayList<>(Arrays.asList(null, null));
    private final List<List<Integer>> keptSayings = new ArrayList<>(Arrays.asList(null, null));
    private int fault, status;
    private final List<Integer> trace = new ArrayList<>();

    // ---- rows: as Java's own arrays find it

    int row(int row, int lane, int n) {
        if (row < 0 || row > 7 || lane < 0 || lane > 2 || n > 40) {
            return BAD;
        }
        try {
            rows[row] = lane == 0 ? new byte[n] : lane == 1 ? new short[n] : (Object) new int[n];
            return fine(n);
        } catch (NegativeArraySizeException e) {
            return found(4);
        }
    }

    int set(int row, int i, int v) {
        if (row < 0 || row > 7) {
            return BAD;
        }
        try {
            if (rows[row] instanceof byte[] b) {
                b[i] = (byte) v;
                return fine(b[i]);
            }
            if (rows[row] instanceof short[] s) {
                s[i] = (short) v;
                return fine(s[i]);
            }
            ((int[]) rows[row])[i] = v;
            return fine(v);
        } catch (NullPointerException e) {
            return found(1);
        } catch (ArrayIndexOutOfBoundsException e) {
            return found(2);
        }
    }

    int copy(int a, int i, int b, int j, int n) {
        if (a < 0 || a > 7 || b < 0 || b > 7) {
            return BAD;
        }
        try {
            System.arraycopy(rows[a], i, rows[b], j, n);
            return fine(n);
        } catch (NullPointerException e) {
            return found(1);
        } catch (ArrayStoreException e) {
            return found(5);
        } catch (IndexOutOfBoundsException e) {
            return found(2);
        }
    }

    int drop(int row) {
        if (row < 0 || row > 7) {
            return BAD;
        }
        if (rows[row] == null) {
            return found(1);
        }
        int n = java.lang.reflect.Array.getLength(rows[row]);
        rows[row] = null;
        return fine(n);
    }

    private int found(int finding) {
        status = finding;
        return -1000010 - finding;
    }

    private int fine(int answer) {
        status = 0;
        return answer;
    }

    // ---- texts

    int feed(long w, int n) {
        if (n < 1 || n > 8) {
            return BAD;
        }
        if (tape.length() + n > 400) {
            return FULL;
        }
        byte[] all = java.nio.ByteBuffer.allocate(8).putLong(w).array();
        for (int i = 8 - n; i < 8; i++) {
            tape.append((char) (all[i] & 255));
        }
        return tape.length();
    }

    private List<Token> tokens() {
        List<Token> tokens = new ArrayList<>();
        java.util.regex.Matcher m =
            java.util.regex.Pattern.compile("[a-z]+|[0-9]+|[^ \n]", java.util.regex.Pattern.DOTALL).matcher(tape);
        while (m.find()) {
            tokens.add(new Token(m.group(), m.start()));
        }
        tokens.add(new Token("", tape.length()));
        tape.setLength(0);
        return tokens;
    }

    private static int number(Token t, int most) throws Fault {
        if (!t.text.matches("[0-9]{1,3}")) {
            throw new Fault(1, t.at);
        }
        if (Integer.parseInt(t.text) > most) {
            throw new Fault(2, t.at);
        }
        return Integer.parseInt(t.text);
    }

    private static void stands(boolean can, Token t) throws Fault {
        if (!can) {
            throw new Fault(1, t.at);
        }
    }

    int town() {
        try {
            places = readTown(tokens());
            return places.size();
        } catch (Fault f) {
            fault = f.number;
            return -1000100 - f.place;
        }
    }

    private static List<Place> readTown(List<Token> t) throws Fault {
        List<Place> town = new ArrayList<>();
        int i = 0;
        while (t.get(i).text.equals("corner")) {
            if (town.size() == 8) {
                throw new Fault(3, t.get(i).at);
            }
            int height = number(t.get(i + 1), 99);
            int mark = number(t.get(i + 2), 9);
            boolean well = t.get(i + 3).text.equals("well");
            i += well ? 4 : 3;
            stands(t.get(i).text.equals(";"), t.get(i));
            i++;
            town.add(new Place(height, mark, well));
        }
        stands(town.size() >= 2, t.get(i));
        int streets = 0;
        while (t.get(i).text.equals("street")) {
            if (streets == 12) {
                throw new Fault(3, t.get(i).at);
            }
            int a = number(t.get(i + 1), town.size() - 1);
            if (town.get(a).streets.size() == 6) {
                throw new Fault(3, t.get(i + 1).at);
            }
            int b = number(t.get(i + 2), town.size() - 1);
            if (a == b || town.get(a).streets.contains(b)) {
                throw new Fault(2, t.get(i + 2).at);
            }
            if (town.get(b).streets.size() == 6) {
                throw new Fault(3, t.get(i + 2).at);
            }
            stands(t.get(i + 3).text.equals(";"), t.get(i + 3));
            town.get(a).streets.add(b);
            town.get(b).streets.add(a);
            i += 4;
            streets++;
        }
        stands(streets > 0 && t.get(i).text.isEmpty(), t.get(i));
        return town;
    }

    private static final List<String> WORDS = List.of("up", "down", "mark", "on", "back", "hand", "other", "take");

    int say() {
        try {
            List<Token> t = tokens();
            List<Integer> words = new ArrayList<>();
            int i = 0;
            while (!t.get(i).text.equals(";")) {
                int word = WORDS.indexOf(t.get(i).text);
                stands(word >= 0, t.get(i));
                if (words.size() == 12) {
                    throw new Fault(3, t.get(i).at);
                }
                i++;
                if (word == 2) {
                    word = 20 + number(t.get(i), 9);
                    i++;
                }
                words.add(word);
            }
            stands(t.get(i + 1).text.isEmpty(), t.get(i + 1));
            saying = words;
            return words.size();
        } catch (Fault f) {
            fault = f.number;
            return -1000100 - f.place;
        }
    }

    int words(int row, int i, int n) {
        if (row < 0 || row > 7 || n < 0 || n > 12) {
            return BAD;
        }
        if (rows[row] == null) {
            return found(1);
        }
        if (i < 0 || (long) i + n > java.lang.reflect.Array.getLength(rows[row])) {
            return found(2);
        }
        List<Integer> words = new ArrayList<>();
        for (int k = i; k < i + n; k++) {
            int word = java.lang.reflect.Array.getInt(rows[row], k);
            if (!List.of(0, 1, 3, 4, 5, 6, 7, 20, 21, 22, 23, 24, 25, 26, 27, 28, 29).contains(word)) {
                return BAD;
            }
            words.add(word);
        }
        saying = words;
        return fine(n);
    }

    int fault() {
        return fault;
    }

    int corner(int c, int what) {
        if (!is(c) || what < 0 || what > 15 || (what > 3 && what < 10)) {
            return BAD;
        }
        Place p = places.get(c);
        if (what > 3) {
            return what - 10 < p.streets.size() ? p.streets.get(what - 10) : NONE;
        }
        return what == 0 ? p.height : what == 1 ? p.mark : what == 2 ? (p.well ? 1 : 0) : p.streets.size();
    }

    int mark(int c, int m) {
        if (!is(c) || m < 0 || m > 9) {
            return BAD;
        }
        int was = places.get(c).mark;
        places.get(c).mark = m;
        return was;
    }

    int word(int k) {
        return k < 0 ? BAD : k < saying.size() ? saying.get(k) : NONE;
    }

    private boolean is(int corner) {
        return corner >= 0 && corner < places.size();
    }

    // ---- walks

    /** Where one is: corner, by which he came (-1: by none), hand. */
    record Standing(int at, int from, boolean hand) { }

    /** Where a word leads, or null. */
    Standing step(Standing s, int word, boolean image, boolean raw) {
        Place p = places.get(s.at);
        List<Integer> lying = new ArrayList<>(p.streets);
        if (image && raw) {
            java.util.Collections.reverse(lying);
        }
        int came = lying.indexOf(s.from);
        int n = lying.size();
        int to = -1;
        if (word == 7) {
            return p.well ? new Standing(s.at, s.from, true) : null;
        } else if (word == 4) {
            to = s.from;
        } else if (word == 3) {
            to = came >= 0 && n % 2 == 0 ? lying.get((came + n / 2) % n) : -1;
        } else if (word == 5 || word == 6) {
            to = came >= 0 && (raw || s.hand) ? lying.get((came + (word == 5 ? 1 : n - 1)) % n) : -1;
        } else if (word >= 20) {
            to = onlyOne(p.streets.stream().filter(c -> places.get(c).mark == word - 20).toList());
        } else if (!lying.isEmpty()) {
            int sign = word == 0 ? 1 : -1;
            int far = p.streets.stream().mapToInt(c -> sign * places.get(c).height).max().getAsInt();
            to = far > sign * p.height
                ? onlyOne(p.streets.stream().filter(c -> sign * places.get(c).height == far).toList()) : -1;
        }
        return to < 0 ? null : new Standing(to, s.at, s.hand);
    }

    private static int onlyOne(List<Integer> l) {
        return l.size() == 1 ? l.get(0) : -1;
    }

    /** All standings from the first on; shorter by the words behind a failure. */
    private List<Standing> walked(int corner, List<Integer> words, boolean image, boolean raw) {
        List<Standing> all = new ArrayList<>();
        Standing s = new Standing(corner, -1, false);
        for (int k = 0; s != null; k++) {
            all.add(s);
            s = k < words.size() ? step(s, words.get(k), image, raw) : null;
        }
        return all;
    }

    private static boolean bit(int v) {
        return v == 0 || v == 1;
    }

    int walk(int corner, int image, int raw, int what) {
        if (!is(corner) || !bit(image) || !bit(raw) || !bit(what)) {
            return BAD;
        }
        List<Standing> all = walked(corner, saying, image == 1, raw == 1);
        if (what == 0) {
            return all.get(all.size() - 1).at;
        }
        return all.size() <= saying.size() ? all.size() - 1 : NONE;
    }

    int parts(int corner, int raw) {
        if (!is(corner) || !bit(raw)) {
            return BAD;
        }
        List<Standing> town = walked(corner, saying, false, raw == 1);
        List<Standing> image = walked(corner, saying, true, raw == 1);
        for (int k = 1; k < Math.max(town.size(), image.size()); k++) {
            if (k >= town.size() || k >= image.size() || town.get(k).at != image.get(k).at) {
                return k - 1;
            }
        }
        return NONE;
    }

    private static final List<Integer> PLAIN = List.of(0, 1, 20, 21, 22, 23, 24, 25, 26, 27, 28, 29);

    private int plain(int corner, int word) {
        Standing s = step(new Standing(corner, -1, false), word, false, false);
        return s == null ? -1 : s.at;
    }

    /** Marks the pairs that can be told apart until no more come. */
    int apart(int corner, int what) {
        if (!is(corner) || !bit(what)) {
            return BAD;
        }
        int n = places.size();
        boolean[][] unlike = new boolean[n][n];
        for (boolean more = true; more;) {
            more = false;
            for (int a = 0; a < n; a++) {
                for (int b = 0; b < n; b++) {
                    if (!unlike[a][b] && told(a, b, unlike)) {
                        unlike[a][b] = true;
                        more = true;
                    }
                }
            }
        }
        int[] cls = new int[n];
        int classes = 0;
        for (int c = 0; c < n; c++) {
            cls[c] = -1;
            for (int d = 0; d < c && cls[c] < 0; d++) {
                cls[c] = unlike[c][d] ? -1 : cls[d];
            }
            cls[c] = cls[c] < 0 ? classes++ : cls[c];
        }
        return what == 0 ? cls[corner] : classes;
    }

    private boolean told(int a, int b, boolean[][] unlike) {
        if (places.get(a).mark != places.get(b).mark) {
            return true;
        }
        for (int w : PLAIN) {
            int x = plain(a, w), y = plain(b, w);
            if ((x < 0) != (y < 0) || (x >= 0 && unlike[x][y])) {
                return true;
            }
        }
        return false;
    }

    // ---- ways: fewest words to the goal from each standing, then the first word that comes nearer

    private static final List<Integer> ALL =
        List.of(0, 1, 20, 21, 22, 23, 24, 25, 26, 27, 28, 29, 3, 4, 5, 6, 7);

    List<Integer> shortestWay(int a, int b, boolean hands) {
        List<Integer> words = hands ? ALL : ALL.subList(0, 14);
        java.util.Map<Standing, Integer> far = new java.util.HashMap<>();
        List<Standing> all = new ArrayList<>();
        for (int c = 0; c < places.size(); c++) {
            for (int from = -1; from < places.size(); from++) {
                if (from < 0 || places.get(c).streets.contains(from)) {
                    all.add(new Standing(c, from, false));
                    all.add(new Standing(c, from, true));
                }
            }
        }
        for (Standing s : all) {
            if (s.at == b) {
                far.put(s, 0);
            }
        }
        for (int round = 0; round < all.size(); round++) {
            boolean changed = false;
            for (Standing s : all) {
                for (int w : words) {
                    Standing t = step(s, w, false, false);
                    if (t != null && far.containsKey(t) && far.get(t) + 1 < far.getOrDefault(s, 1000)) {
                        far.put(s, far.get(t) + 1);
                        changed = true;
                    }
                }
            }
            if (!changed) {
                break;
            }
        }
        Standing s = new Standing(a, -1, false);
        if (!far.containsKey(s)) {
            return null;
        }
        List<Integer> way = new ArrayList<>();
        while (far.get(s) > 0) {
            for (int w : words) {
                Standing t = step(s, w, false, false);
                if (t != null && far.containsKey(t) && far.get(t) == far.get(s) - 1) {
                    way.add(w);
                    s = t;
                    break;
                }
            }
        }
        return way;
    }

    int shortest(int a, int b, int hands, int k) {
        if (!is(a) || !is(b) || !bit(hands) || k < -1) {
            return BAD;
        }
        List<Integer> way = shortestWay(a, b, hands == 1);
        if (way == null) {
            return NONE;
        }
        return k == -1 ? way.size() : k < way.size() ? way.get(k) : NONE;
    }

    int soonest(int a, int what) {
        if (!is(a) || !bit(what)) {
            return BAD;
        }
        int best = NONE, at = NONE;
        for (int c = 0; c < places.size(); c++) {
            List<Integer> way = places.get(c).well ? shortestWay(a, c, false) : null;
            if (way != null && (best == NONE || way.size() < best)) {
                best = way.size();
                at = c;
            }
        }
        return what == 0 ? best : at;
    }

    // ---- turns and images: all orders of all corners are tried

    private List<int[]> allLaid(boolean image) {
        List<int[]> found = new ArrayList<>();
        tryAll(new int[places.size()], 0, image, found);
        return found;
    }

    private void tryAll(int[] on, int c, boolean image, List<int[]> found) {
        if (c == on.length) {
            if (isLaying(on, image)) {
                found.add(on.clone());
            }
            return;
        }
        for (int t = 0; t < on.length; t++) {
            boolean free = true;
            for (int d = 0; d < c; d++) {
                free &= on[d] != t;
            }
            Place p = places.get(c), q = places.get(t);
            if (free && p.height == q.height && p.mark == q.mark && p.well == q.well) {
                on[c] = t;
                tryAll(on, c + 1, image, found);
            }
        }
    }

    private boolean isLaying(int[] on, boolean image) {
        for (int c = 0; c < on.length; c++) {
            List<Integer> laid = new ArrayList<>();
            for (int d : places.get(c).streets) {
                laid.add(on[d]);
            }
            if (image) {
                java.util.Collections.reverse(laid);
            }
            if (!sameRound(laid, places.get(on[c]).streets)) {
                return false;
            }
        }
        return true;
    }

    private static boolean sameRound(List<Integer> a, List<Integer> b) {
        if (a.size() != b.size()) {
            return false;
        }
        List<Integer> turned = new ArrayList<>(a);
        for (int i = 0; i <= a.size(); i++) {
            if (turned.equals(b)) {
                return true;
            }
            java.util.Collections.rotate(turned, 1);
        }
        return false;
    }

    int laid(int what, int i, int corner) {
        if (!bit(what) || i < -1 || !is(corner)) {
            return BAD;
        }
        List<int[]> all = allLaid(what == 1);
        return i == -1 ? all.size() : i < all.size() ? all.get(i)[corner] : NONE;
    }

    int ends() {
        if (places.isEmpty()) {
            return STATE;
        }
        List<int[]> all = allLaid(true);
        for (int c = 0; c < places.size() && !all.isEmpty(); c++) {
            int corner = c;
            if (all.stream().noneMatch(on -> on[corner] == corner)) {
                return c;
            }
        }
        return NONE;
    }

    int lost(int corner) {
        if (!is(corner)) {
            return BAD;
        }
        TreeSet<Integer> ends = new TreeSet<>();
        for (int k = 0; k < saying.size(); k++) {
            List<Integer> rest = new ArrayList<>(saying);
            rest.remove(k);
            List<Standing> all = walked(corner, rest, false, false);
            if (all.size() > rest.size()) {
                ends.add(all.get(rest.size()).at);
            }
        }
        return ends.stream().mapToInt(c -> 1 << c).sum();
    }

    int meet(int a, int b, int what) {
        if (!is(a) || !is(b) || !bit(what)) {
            return BAD;
        }
        if (what == 0) {
            List<Standing> one = walked(a, saying, false, false), two = walked(b, saying, false, false);
            for (int k = 0; k < Math.min(one.size(), two.size()); k++) {
                if (one.get(k).at == two.get(k).at) {
                    return k;
                }
            }
            return NONE;
        }
        boolean[][] pairs = new boolean[8][8];
        pairs[a][b] = true;
        for (int n = 0; n <= 64; n++) {
            boolean[][] next = new boolean[8][8];
            for (int x = 0; x < places.size(); x++) {
                for (int y = 0; y < places.size(); y++) {
                    if (pairs[x][y] && x == y) {
                        return n;
                    }
                    for (int w : PLAIN) {
                        int p = plain(x, w), q = plain(y, w);
                        if (pairs[x][y] && p >= 0 && q >= 0) {
                            next[p][q] = true;
                        }
                    }
                }
            }
            pairs = next;
        }
        return NONE;
    }

    /** All orders in which l + r gloves can be drawn, as sets of the places of the left ones, counted. */
    int gloves(int l, int r, int what) {
        if (l < 1 || l > 8 || r < 1 || r > 8 || what < 0 || what > 2) {
            return BAD;
        }
        long orders = 0, drawn = 0, most = 0;
        for (int set = 0; set < 1 << (l + r); set++) {
            if (Integer.bitCount(set) == l) {
                int n = 1;
                while ((set >> n & 1) == (set & 1)) {
                    n++;
                }
                orders++;
                drawn += n + 1;
                most = Math.max(most, n + 1);
            }
        }
        long common = BigInteger.valueOf(orders).gcd(BigInteger.valueOf(drawn)).longValue();
        return (int) (what == 0 ? most : what == 1 ? drawn / common : orders / common);
    }

    int image(int k) {
        if (!bit(k)) {
            return BAD;
        }
        if (places.isEmpty()) {
            return STATE;
        }
        keptPlaces.set(k, places.stream().map(Place::again).toList());
        keptSayings.set(k, List.copyOf(saying));
        return 1;
    }

    int restore(int k) {
        if (!bit(k)) {
            return BAD;
        }
        if (keptPlaces.get(k) == null) {
            return STATE;
        }
        places = keptPlaces.get(k).stream().map(Place::again).toList();
        saying = keptSayings.get(k);
        return 1;
    }

    // ---- asks: as Java's own classes find the body

    private interface Word {
        Model model();

        int place();

        int number();

        default int size() {
            model().trace.add(10);
            return place();
        }

        default int mark() {
            model().trace.add(20);
            return number() >= 20 ? 2 : number();
        }
    }

    private abstract static class Any implements Word {
        private final Model model;
        private final int place;

        Any(Model model, int place) {
            this.model = model;
            this.place = place;
        }

        public Model model() {
            return model;
        }

        public int place() {
            return place;
        }

        public int number() {
            return model.saying.get(place);
        }
    }

    private static final class Slope extends Any {
        Slope(Model model, int place) {
            super(model, place);
        }

        public int size() {
            model().trace.add(11);
            return super.size() + mark();
        }
    }

    private static final class Marked extends Any {
        Marked(Model model, int place) {
            super(model, place);
        }

        public int mark() {
            model().trace.add(21);
            return super.mark() + 10 * (number() - 20);
        }
    }

    private static class Turned extends Any {
        Turned(Model model, int place) {
            super(model, place);
        }

        public int size() {
            model().trace.add(12);
            return super.size() - mark();
        }
    }

    private static final class Handed extends Turned {
        Handed(Model model, int place) {
            super(model, place);
        }

        public int size() {
            model().trace.add(13);
            return 2 * super.size();
        }

        public int mark() {
            model().trace.add(22);
            return super.mark() + 100;
        }
    }

    private static final class Taken extends Any {
        Taken(Model model, int place) {
            super(model, place);
        }

        public int size() {
            model().trace.add(14);
            return 0 - super.size();
        }

        public int mark() {
            model().trace.add(23);
            return super.mark() + size();
        }
    }

    private Word wordOf(int k) {
        return switch (saying.get(k)) {
            case 0, 1 -> new Slope(this, k);
            case 3, 4 -> new Turned(this, k);
            case 5, 6 -> new Handed(this, k);
            case 7 -> new Taken(this, k);
            default -> new Marked(this, k);
        };
    }

    private boolean said(int k) {
        return k >= 0 && k < saying.size();
    }

    int kind(int k) {
        if (!said(k)) {
            return BAD;
        }
        Word w = wordOf(k);
        return w instanceof Slope ? 1 : w instanceof Marked ? 2 : w instanceof Handed ? 4 : w instanceof Turned ? 3 : 5;
    }

    int as(int k, int kind) {
        if (!said(k) || kind < 0 || kind > 5) {
            return BAD;
        }
        List<Class<?>> kinds =
            List.of(Word.class, Slope.class, Marked.class, Turned.class, Handed.class, Taken.class);
        return kinds.get(kind).isInstance(wordOf(k)) ? fine(saying.get(k)) : found(3);
    }

    int ask(int k, int what) {
        if (!said(k) || !bit(what)) {
            return BAD;
        }
        trace.clear();
        return what == 0 ? wordOf(k).size() : wordOf(k).mark();
    }

    int trace(int i) {
        return i >= 0 && i < Math.min(16, trace.size()) ? trace.get(i) : NONE;
    }

    int count(int what) {
        switch (what) {
            case 0: return (int) Arrays.stream(rows).filter(r -> r != null).count();
            case 1: return places.size();
            case 2: return places.stream().mapToInt(p -> p.streets.size()).sum() / 2;
            case 3: return (int) places.stream().filter(p -> p.well).count();
            case 4: return saying.size();
            case 5: return tape.length();
            default: return BAD;
        }
    }

    int status() {
        return status;
    }
}
