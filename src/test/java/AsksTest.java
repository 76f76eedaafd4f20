/** Promises 23 and 26 to 29: gloves, kinds, words taken as a kind, asks and their trace. */
final class AsksTest {
    private static final int BAD = -1000001, KIND = -1000013, NONE = -1000000;

    public static void main(String[] args) {
        gloves();
        allGloves();
        kinds();
        asKinds();
        asks();
        asksByPlace();
        asksOfOthers();
        trace();
        Check.end();
    }

    private static void gloves(int l, int r, int most, int above, int below) {
        Check.due("gloves(" + l + ", " + r + ", 0)", x().gloves(l, r, 0), most);
        Check.due("gloves(" + l + ", " + r + ", 1)", x().gloves(l, r, 1), above);
        Check.due("gloves(" + l + ", " + r + ", 2)", x().gloves(l, r, 2), below);
    }

    private static SidelessTown x() {
        return new SidelessTown();
    }

    private static void gloves() {
        gloves(1, 1, 2, 2, 1);
        gloves(2, 1, 3, 7, 3);
        gloves(1, 8, 9, 46, 9);
        gloves(8, 1, 9, 46, 9);
        gloves(8, 8, 9, 25, 9);
        for (int bad : new int[] {0, 9, -1, Integer.MAX_VALUE, Integer.MIN_VALUE}) {
            Check.due("gloves(" + bad + ", 1, 0)", x().gloves(bad, 1, 0), BAD);
            Check.due("gloves(1, " + bad + ", 0)", x().gloves(1, bad, 0), BAD);
        }
        Check.due("gloves(1, 1, 3)", x().gloves(1, 1, 3), BAD);
        Check.due("gloves(1, 1, -1)", x().gloves(1, 1, -1), BAD);
    }

    /** The model draws them in all orders there are. */
    private static void allGloves() {
        Model m = new Model();
        for (int l = 1; l <= 8; l++) {
            for (int r = 1; r <= 8; r++) {
                gloves(l, r, m.gloves(l, r, 0), m.gloves(l, r, 1), m.gloves(l, r, 2));
            }
        }
    }

    private static SidelessTown withAllWords() {
        SidelessTown x = new SidelessTown();
        Check.say(x, "up down mark 0 mark 9 on back hand other take;");
        return x;
    }

    private static void kinds() {
        SidelessTown x = withAllWords();
        int[] want = {1, 1, 2, 2, 3, 3, 4, 4, 5, BAD};
        for (int k = 0; k < want.length; k++) {
            Check.due("kind(" + k + ")", x.kind(k), want[k]);
        }
        Check.due("kind(-1)", x.kind(-1), BAD);
        Check.due("kind without a saying", new SidelessTown().kind(0), BAD);
    }

    private static void asKinds() {
        SidelessTown x = withAllWords();
        for (int k = 0; k < 9; k++) {
            for (int kind = 0; kind <= 5; kind++) {
                boolean is = kind == 0 || kind == x.kind(k) || (kind == 3 && x.kind(k) == 4);
                Check.due("as(" + k + ", " + kind + ")", x.as(k, kind), is ? x.word(k) : KIND);
                Check.due("status() behind as(" + k + ", " + kind + ")", x.status(), is ? 0 : 3);
            }
        }
        Check.due("as(9, 0)", x.as(9, 0), BAD);
        Check.due("as(-1, 0)", x.as(-1, 0), BAD);
        Check.due("as(0, 6)", x.as(0, 6), BAD);
        Check.due("as(0, -1)", x.as(0, -1), BAD);
    }

    private static void asked(SidelessTown x, int k, int what, int answer, int... bodies) {
        String call = "ask(" + k + ", " + what + ")";
        Check.due(call, x.ask(k, what), answer);
        for (int i = 0; i < bodies.length; i++) {
            Check.due("trace(" + i + ") of " + call, x.trace(i), bodies[i]);
        }
        Check.due("trace behind all of " + call, x.trace(bodies.length), NONE);
    }

    private static void asks() {
        SidelessTown x = withAllWords();
        asked(x, 0, 0, 0, 11, 10, 20);
        asked(x, 1, 0, 2, 11, 10, 20);
        asked(x, 2, 0, 2, 10);
        asked(x, 3, 0, 3, 10);
        asked(x, 4, 0, 4 - 3, 12, 10, 20);
        asked(x, 5, 0, 5 - 4, 12, 10, 20);
        asked(x, 6, 0, 2 * (6 - 105), 13, 12, 10, 22, 20);
        asked(x, 7, 0, 2 * (7 - 106), 13, 12, 10, 22, 20);
        asked(x, 8, 0, -8, 14, 10);
        asked(x, 0, 1, 0, 20);
        asked(x, 1, 1, 1, 20);
        asked(x, 2, 1, 2, 21, 20);
        asked(x, 3, 1, 92, 21, 20);
        asked(x, 4, 1, 3, 20);
        asked(x, 5, 1, 4, 20);
        asked(x, 6, 1, 105, 22, 20);
        asked(x, 7, 1, 106, 22, 20);
        asked(x, 8, 1, 7 - 8, 23, 20, 14, 10);
        Check.due("ask(9, 0)", x.ask(9, 0), BAD);
        Check.due("ask(-1, 0)", x.ask(-1, 0), BAD);
        Check.due("ask(0, 2)", x.ask(0, 2), BAD);
        Check.due("ask(0, -1)", x.ask(0, -1), BAD);
    }

    /** The place in the saying is what 10 gives, from the first word to the twelfth. */
    private static void asksByPlace() {
        String[] words = {"up ", "down ", "mark 7 ", "on ", "back ", "hand ", "other ", "take "};
        for (int word = 0; word < words.length; word++) {
            SidelessTown x = new SidelessTown();
            Check.say(x, words[word].repeat(12) + ";");
            for (int k = 0; k < 12; k++) {
                int[] sizes = {k, k + 1, k, k - 3, k - 4, 2 * (k - 105), 2 * (k - 106), -k};
                int[] marks = {0, 1, 72, 3, 4, 105, 106, 7 - k};
                Check.due("ask(" + k + ", 0) of " + words[word], x.ask(k, 0), sizes[word]);
                Check.due("ask(" + k + ", 1) of " + words[word], x.ask(k, 1), marks[word]);
            }
            Check.due("ask(12, 0) of " + words[word], x.ask(12, 0), BAD);
        }
        SidelessTown x = new SidelessTown();
        for (int m = 0; m <= 9; m++) {
            Check.say(x, "mark " + m + ";");
            Check.due("ask(0, 1) of mark " + m, x.ask(0, 1), 2 + 10 * m);
            Check.due("ask(0, 0) of mark " + m, x.ask(0, 0), 0);
        }
    }

    /** A saying that was made of a row, or kept by an image, is asked as one that was read. */
    private static void asksOfOthers() {
        SidelessTown x = Check.withTown("corner 1 1;corner 2 2;street 0 1;");
        x.row(0, 0, 3);
        x.set(0, 0, 24);
        x.set(0, 1, 5);
        x.set(0, 2, 7);
        x.words(0, 0, 3);
        x.image(0);
        Check.say(x, "up;");
        asked(x, 0, 0, 0, 11, 10, 20);
        Check.due("as(0, 4) of up", x.as(0, 4), KIND);
        Check.due("kind(1) behind its end", x.kind(1), BAD);
        x.restore(0);
        Check.due("the trace stays behind restore", x.trace(0), 11);
        asked(x, 0, 1, 42, 21, 20);
        asked(x, 1, 0, 2 * (1 - 105), 13, 12, 10, 22, 20);
        asked(x, 2, 1, 7 - 2, 23, 20, 14, 10);
        Check.due("as(0, 2) of mark 4", x.as(0, 2), 24);
        Check.due("as(1, 3) of hand", x.as(1, 3), 5);
        Check.due("as(2, 0) of take", x.as(2, 0), 7);
        Check.due("as(2, 3) of take", x.as(2, 3), KIND);
        Check.due("KIND stays behind BAD", x.as(3, 0), BAD);
        Check.due("status()", x.status(), 3);
    }

    private static void trace() {
        SidelessTown x = withAllWords();
        Check.due("empty at first", x.trace(0), NONE);
        x.ask(6, 0);
        x.ask(99, 0);
        x.ask(0, 2);
        Check.due("a refused ask leaves it", x.trace(0), 13);
        Check.due("to its end", x.trace(4), 20);
        x.ask(0, 1);
        Check.due("an ask empties it", x.trace(1), NONE);
        Check.say(x, "take;");
        Check.due("it stays behind another saying", x.trace(0), 20);
        for (int i : new int[] {-1, 16, 17, Integer.MAX_VALUE, Integer.MIN_VALUE}) {
            Check.due("trace(" + i + ")", x.trace(i), NONE);
        }
    }
}
