import java.util.ArrayList;
import java.util.List;
import java.util.Random;

/** Runs of calls, drawn by fixed seeds, on the program and on the model beside it: all answers have to agree. */
final class ModelTest {
    private static final int RUNS = 400, CALLS = 480;

    private final Random random;
    private final int run;
    private final SidelessTown x = new SidelessTown();
    private final Model m = new Model();
    private int calls;
    /** Towns with many ways to lay them upon themselves are dear for the model: only some runs have them. */
    private final int heights, marks;

    private ModelTest(int run) {
        this.run = run;
        random = new Random(run);
        heights = run % 5 == 0 ? 1 : 1 + random.nextInt(5);
        marks = run % 5 == 0 ? 1 : 1 + random.nextInt(8);
    }

    public static void main(String[] args) {
        int runs = args.length > 0 ? Integer.parseInt(args[0]) : RUNS;
        for (int run = 0; run < runs; run++) {
            new ModelTest(run).go();
        }
        Check.end();
    }

    private void due(String call, int got, int want) {
        calls++;
        Check.due("run " + run + ", call " + calls + ": " + call, got, want);
    }

    private void go() {
        while (calls < CALLS) {
            int dice = random.nextInt(100);
            if (dice < 6) {
                feedAndRead(true, townText());
            } else if (dice < 14) {
                feedAndRead(false, sayingText());
            } else if (dice < 16) {
                feedAndRead(random.nextBoolean(), spoilt(random.nextBoolean() ? townText() : sayingText()));
            } else if (dice < 40) {
                callOfRows();
            } else if (dice < 46) {
                callOfTowns();
            } else if (dice < 80) {
                callOfWalks();
            } else {
                callOfAsks();
            }
        }
    }

    // ---- texts

    private void feedAndRead(boolean town, String text) {
        for (int from = 0; from < text.length();) {
            int n = Math.min(1 + random.nextInt(8), text.length() - from);
            long w = random.nextLong();
            for (int i = 0; i < n; i++) {
                w = w << 8 | text.charAt(from + i);
            }
            if (n < 8) {
                w ^= random.nextLong() << (8 * n);
            }
            due("feed(" + w + ", " + n + ")", x.feed(w, n), m.feed(w, n));
            from += n;
        }
        if (random.nextInt(60) == 0) {
            due("feed(0, 8)", x.feed(0, 8), m.feed(0, 8));
        }
        if (town) {
            due("town()", x.town(), m.town());
        } else {
            due("say()", x.say(), m.say());
        }
        due("fault()", x.fault(), m.fault());
        due("count(1)", x.count(1), m.count(1));
        due("count(4)", x.count(4), m.count(4));
    }

    private String blank() {
        return random.nextInt(30) > 0 ? " " : random.nextBoolean() ? "\n" : " \n ";
    }

    private String gap() {
        return random.nextInt(20) > 0 ? "" : blank();
    }

    private String townText() {
        int corners = 2 + random.nextInt(7);
        StringBuilder s = new StringBuilder(gap());
        for (int c = 0; c < corners; c++) {
            s.append("corner").append(gap()).append(random.nextInt(heights)).append(blank())
                .append(random.nextInt(marks)).append(random.nextInt(4) == 0 ? gap() + "well" : "")
                .append(gap()).append(";").append(gap());
        }
        List<int[]> pairs = new ArrayList<>();
        for (int a = 0; a < corners; a++) {
            for (int b = 0; b < corners; b++) {
                if (a < b) {
                    pairs.add(random.nextBoolean() ? new int[] {a, b} : new int[] {b, a});
                }
            }
        }
        java.util.Collections.shuffle(pairs, random);
        int streets = 1 + random.nextInt(12);
        int[] about = new int[8];
        for (int[] p : pairs) {
            boolean fits = about[p[0]] < 6 && about[p[1]] < 6;
            if (streets > 0 && (fits || random.nextInt(20) == 0)) {
                s.append("street").append(gap()).append(p[0]).append(blank()).append(p[1]).append(gap()).append(";");
                about[p[0]]++;
                about[p[1]]++;
                streets--;
            }
        }
        return s.append(gap()).toString();
    }

    private String sayingText() {
        String[] words = {"up", "down", "mark", "on", "back", "hand", "other", "take"};
        StringBuilder s = new StringBuilder(gap());
        int n = random.nextInt(30) == 0 ? 13 : random.nextInt(13);
        boolean hands = random.nextBoolean();
        for (int k = 0; k < n; k++) {
            int word = hands ? random.nextInt(8) : random.nextInt(5);
            s.append(words[word]);
            if (word == 2) {
                s.append(gap()).append(random.nextInt(marks)).append(gap());
            } else {
                s.append(blank());
            }
        }
        return s.append(";").append(gap()).toString();
    }

    /** A text with a byte, or some, lost, put in or changed. */
    private String spoilt(String text) {
        String pool = "0123456789 ;\nabcdefghijklmnopqrstuvwxyzAZ\u0000\u00ff-.";
        StringBuilder s = new StringBuilder(text);
        int places = 1 + random.nextInt(2);
        for (int k = 0; k < places && s.length() > 0; k++) {
            int i = random.nextInt(s.length());
            char c = pool.charAt(random.nextInt(random.nextBoolean() ? 13 : pool.length()));
            switch (random.nextInt(6)) {
                case 0: s.deleteCharAt(i); break;
                case 1: s.insert(i, c); break;
                case 2: s.setCharAt(i, c); break;
                case 3: s.setLength(i); break;
                case 4: s.insert(i, s.substring(i, Math.min(s.length(), i + 1 + random.nextInt(12)))); break;
                default: s.delete(i, Math.min(s.length(), i + 1 + random.nextInt(12)));
            }
        }
        return s.toString();
    }

    // ---- arguments

    /** Mostly from low to high, at times just beside, at times far off. */
    private int some(int low, int high) {
        int dice = random.nextInt(40);
        if (dice == 0) {
            return low - 1;
        }
        if (dice == 1) {
            return high + 1;
        }
        if (dice == 2) {
            return new int[] {Integer.MIN_VALUE, Integer.MAX_VALUE, -1, 1 << 30, -1000000}[random.nextInt(5)];
        }
        return low + random.nextInt(high - low + 1);
    }

    private int someCorner() {
        return some(0, Math.max(0, m.count(1) - 1));
    }

    private int someWord() {
        return some(0, Math.max(0, m.count(4) - 1));
    }

    // ---- calls

    private void callOfRows() {
        int row = some(0, random.nextBoolean() ? 2 : 7), i = some(0, 12), n = some(0, 12), v = random.nextInt();
        switch (random.nextInt(6)) {
            case 0: {
                int lane = some(0, 2), size = some(0, 40);
                due("row(" + row + ", " + lane + ", " + size + ")", x.row(row, lane, size), m.row(row, lane, size));
                break;
            }
            case 1: case 2: {
                if (random.nextInt(3) > 0) {
                    v = new int[] {0, 1, 3, 4, 5, 6, 7, 20, 21, 29, 2, 30}[random.nextInt(12)];
                }
                due("set(" + row + ", " + i + ", " + v + ")", x.set(row, i, v), m.set(row, i, v));
                break;
            }
            case 3: {
                int b = some(0, 2), j = some(0, 12);
                due("copy(" + row + ", " + i + ", " + b + ", " + j + ", " + n + ")",
                    x.copy(row, i, b, j, n), m.copy(row, i, b, j, n));
                break;
            }
            case 4: {
                due("words(" + row + ", " + i + ", " + n + ")", x.words(row, i, n), m.words(row, i, n));
                break;
            }
            default:
                if (random.nextInt(6) == 0) {
                    due("drop(" + row + ")", x.drop(row), m.drop(row));
                }
        }
        due("status()", x.status(), m.status());
    }

    private void callOfTowns() {
        int c = someCorner();
        switch (random.nextInt(4)) {
            case 0: {
                int what = some(0, 15);
                due("corner(" + c + ", " + what + ")", x.corner(c, what), m.corner(c, what));
                break;
            }
            case 1: {
                int mark = some(0, marks);
                due("mark(" + c + ", " + mark + ")", x.mark(c, mark), m.mark(c, mark));
                break;
            }
            case 2: {
                int k = some(0, 1);
                due("image(" + k + ")", x.image(k), m.image(k));
                break;
            }
            default: {
                int k = some(0, 1);
                due("restore(" + k + ")", x.restore(k), m.restore(k));
            }
        }
    }

    private void callOfWalks() {
        int a = someCorner(), b = someCorner(), bit = some(0, 1), other = some(0, 1), what = some(0, 1);
        switch (random.nextInt(11)) {
            case 0: case 1:
                due("walk(" + a + ", " + bit + ", " + other + ", " + what + ")",
                    x.walk(a, bit, other, what), m.walk(a, bit, other, what));
                break;
            case 2: case 3:
                due("parts(" + a + ", " + bit + ")", x.parts(a, bit), m.parts(a, bit));
                break;
            case 4:
                due("apart(" + a + ", " + bit + ")", x.apart(a, bit), m.apart(a, bit));
                break;
            case 5: {
                for (int k = -1; k < 4; k++) {
                    due("shortest(" + a + ", " + b + ", " + bit + ", " + k + ")",
                        x.shortest(a, b, bit, k), m.shortest(a, b, bit, k));
                }
                break;
            }
            case 6:
                due("soonest(" + a + ", " + bit + ")", x.soonest(a, bit), m.soonest(a, bit));
                break;
            case 7: {
                int many = m.laid(bit, -1, a);
                int i = some(-1, Math.max(0, many));
                due("laid(" + bit + ", -1, " + a + ")", x.laid(bit, -1, a), many);
                due("laid(" + bit + ", " + i + ", " + a + ")", x.laid(bit, i, a), m.laid(bit, i, a));
                break;
            }
            case 8:
                due("ends()", x.ends(), m.ends());
                break;
            case 9:
                due("lost(" + a + ")", x.lost(a), m.lost(a));
                break;
            default:
                due("meet(" + a + ", " + b + ", " + bit + ")", x.meet(a, b, bit), m.meet(a, b, bit));
        }
    }

    private void callOfAsks() {
        int k = someWord();
        switch (random.nextInt(6)) {
            case 0:
                due("kind(" + k + ")", x.kind(k), m.kind(k));
                break;
            case 1: {
                int kind = some(0, 5);
                due("as(" + k + ", " + kind + ")", x.as(k, kind), m.as(k, kind));
                due("status()", x.status(), m.status());
                break;
            }
            case 2: {
                int what = some(0, 1);
                due("ask(" + k + ", " + what + ")", x.ask(k, what), m.ask(k, what));
                for (int i = 0; i < 6; i++) {
                    due("trace(" + i + ")", x.trace(i), m.trace(i));
                }
                break;
            }
            case 3: {
                int i = some(0, 15);
                due("trace(" + i + ")", x.trace(i), m.trace(i));
                due("word(" + k + ")", x.word(k), m.word(k));
                break;
            }
            case 4: {
                int what = some(0, 5);
                due("count(" + what + ")", x.count(what), m.count(what));
                break;
            }
            default: {
                int l = some(1, 5), r = some(1, 5), what = some(0, 2);
                due("gloves(" + l + ", " + r + ", " + what + ")", x.gloves(l, r, what), m.gloves(l, r, what));
            }
        }
    }
}
