/** Promises 14, 15, 21 and 22: where sayings lead, in the town and in its image; one word lost; two who meet. */
final class WalksTest {
    private static final int BAD = -1000001, NONE = -1000000;
    /** Five about the well at corner 0, in the order 1 2 3 4 5; 1 and 2 joined to 6, 5 to 1. */
    private static final String STAR = "corner 50 0 well;corner 10 1;corner 20 2;corner 30 3;corner 40 4;corner 60 5;"
        + "corner 5 6;street 0 1;street 0 2;street 0 3;street 0 4;street 0 5;street 1 6;street 6 2;street 5 1;";

    public static void main(String[] args) {
        withoutSaying();
        upAndDown();
        sixStreets();
        marks();
        onAndBack();
        hands();
        handsRaw();
        takes();
        parts();
        lost();
        lostInAllWays();
        meet();
        meetLate();
        soon();
        soonByOneWord();
        soonLate();
        wrongNumbers();
        Check.end();
    }

    /** Where a saying leads, and where it fails, by hands in the town; the image has to do the same. */
    private static void leads(SidelessTown x, String saying, int from, int to, int failing) {
        Check.say(x, saying);
        for (int image = 0; image <= 1; image++) {
            Check.due(saying + " from " + from + ", image " + image, x.walk(from, image, 0, 0), to);
            Check.due(saying + " from " + from + " fails, image " + image, x.walk(from, image, 0, 1), failing);
        }
        Check.due(saying + " from " + from + " parts", x.parts(from, 0), NONE);
    }

    private static void leadsRaw(SidelessTown x, String saying, int from, int[] ends, int[] failing, int parting) {
        Check.say(x, saying);
        for (int image = 0; image <= 1; image++) {
            Check.due(saying + " raw from " + from + ", image " + image, x.walk(from, image, 1, 0), ends[image]);
            Check.due(saying + " raw fails, image " + image, x.walk(from, image, 1, 1), failing[image]);
        }
        Check.due(saying + " raw from " + from + " parts", x.parts(from, 1), parting);
    }

    private static void withoutSaying() {
        SidelessTown x = Check.withTown(STAR);
        for (int c = 0; c < 7; c++) {
            for (int raw = 0; raw <= 1; raw++) {
                for (int image = 0; image <= 1; image++) {
                    Check.due("no saying: he stays at " + c, x.walk(c, image, raw, 0), c);
                    Check.due("no saying: none fails", x.walk(c, image, raw, 1), NONE);
                }
                Check.due("no saying: no part", x.parts(c, raw), NONE);
            }
            Check.due("no saying: none is lost", x.lost(c), 0);
            Check.due("no saying: at one corner", x.meet(c, c, 0), 0);
            Check.due("no saying: at two corners", x.meet(c, (c + 1) % 7, 0), NONE);
        }
        Check.due("no saying is needed", x.meet(1, 2, 1), 1);
    }

    /** Six streets at 0; what is behind them, at 1, is not looked at. */
    private static void sixStreets() {
        String six = "street 1 7;street 0 1;street 0 2;street 0 3;street 0 4;street 0 5;street 0 6;";
        SidelessTown x = Check.withTown("corner 5 0 well;corner 6 1;corner 7 2;corner 8 3;corner 4 4;corner 3 5;"
            + "corner 2 6;corner 99 7;" + six);
        leads(x, "up;", 0, 3, NONE);
        leads(x, "down;", 0, 6, NONE);
        leads(x, "mark 6;", 0, 6, NONE);
        leads(x, "mark 7;", 0, 0, 0);
        leads(x, "mark 0 on;", 2, 5, NONE);
        leads(x, "mark 0 on;", 6, 3, NONE);
        leads(x, "mark 0 take hand;", 6, 1, NONE);
        leads(x, "mark 0 take other;", 1, 6, NONE);
        leads(x, "mark 0 take hand;", 3, 4, NONE);
        leadsRaw(x, "mark 0 hand;", 6, new int[] {1, 5}, new int[] {NONE, NONE}, 1);
        leadsRaw(x, "mark 0 other;", 1, new int[] {6, 2}, new int[] {NONE, NONE}, 1);
        leadsRaw(x, "mark 0 on;", 1, new int[] {4, 4}, new int[] {NONE, NONE}, NONE);
        x.mark(1, 8);
        leads(x, "mark 1;", 0, 0, 0);
        leads(x, "mark 8;", 0, 1, NONE);
        Check.town(x, "corner 50 0;corner 60 1;corner 70 2;corner 80 3;corner 40 4;corner 30 5;corner 20 6;corner 0 7;" + six);
        leads(x, "down;", 0, 6, NONE);
    }

    private static void upAndDown() {
        SidelessTown x = Check.withTown(STAR);
        leads(x, ";", 3, 3, NONE);
        leads(x, "up;", 0, 5, NONE);
        leads(x, "down;", 0, 1, NONE);
        leads(x, "up up;", 3, 5, NONE);
        leads(x, "up;", 5, 5, 0);
        leads(x, "down;", 6, 6, 0);
        leads(x, "up up up;", 1, 5, 1);
        Check.town(x, "corner 5 0;corner 9 1;corner 9 2;corner 1 3;corner 1 4;corner 5 5;"
            + "street 0 1;street 0 2;street 0 3;street 0 4;street 5 0;");
        leads(x, "up;", 0, 0, 0);
        leads(x, "down;", 0, 0, 0);
        leads(x, "up;", 5, 5, 0);
        leads(x, "down;", 5, 5, 0);
        leads(x, "down;", 1, 0, NONE);
        Check.town(x, "corner 5 0;corner 9 1;corner 9 2;corner 10 3;street 0 1;street 0 2;street 0 3;");
        leads(x, "up;", 0, 3, NONE);
        Check.town(x, "corner 5 0;corner 5 1;corner 9 2;street 0 1;street 1 2;");
        leads(x, "up up;", 0, 0, 0);
        leads(x, "up;", 1, 2, NONE);
    }

    private static void marks() {
        SidelessTown x = Check.withTown(STAR);
        leads(x, "mark 4;", 0, 4, NONE);
        leads(x, "mark 0;", 4, 0, NONE);
        leads(x, "mark 0;", 0, 0, 0);
        leads(x, "mark 9;", 0, 0, 0);
        x.mark(4, 5);
        leads(x, "mark 5;", 0, 0, 0);
        leads(x, "mark 5;", 1, 5, NONE);
    }

    private static void onAndBack() {
        SidelessTown x = Check.withTown(STAR);
        leads(x, "on;", 1, 1, 0);
        leads(x, "back;", 1, 1, 0);
        leads(x, "mark 0 back;", 3, 3, NONE);
        leads(x, "mark 0 back back;", 3, 0, NONE);
        leads(x, "mark 0 on;", 3, 0, 1);
        leads(x, "mark 0 mark 3 on;", 2, 3, 2);
        leads(x, "mark 6 on mark 0;", 1, 0, NONE);
        Check.town(x, "corner 1 0;corner 1 1;corner 1 2;corner 1 3;corner 1 4;"
            + "street 0 3;street 0 1;street 4 0;street 2 0;street 1 2;");
        leads(x, "mark 0 on;", 3, 4, NONE);
        leads(x, "mark 0 on;", 4, 3, NONE);
        leads(x, "mark 0 on;", 1, 2, NONE);
        leads(x, "mark 0 on on;", 1, 1, NONE);
        leads(x, "mark 0 on on on;", 1, 0, NONE);
    }

    private static void hands() {
        SidelessTown x = Check.withTown(STAR);
        leads(x, "mark 0 hand;", 3, 0, 1);
        leads(x, "mark 0 other;", 3, 0, 1);
        leads(x, "take hand;", 0, 0, 1);
        leads(x, "mark 0 take hand;", 3, 4, NONE);
        leads(x, "mark 0 take other;", 3, 2, NONE);
        leads(x, "mark 0 take hand;", 5, 1, NONE);
        leads(x, "mark 0 take other;", 1, 5, NONE);
        leads(x, "take mark 3 hand;", 0, 0, NONE);
        leads(x, "take mark 1 hand hand;", 0, 2, NONE);
        leads(x, "mark 0 take back back hand;", 3, 4, NONE);
    }

    private static void handsRaw() {
        SidelessTown x = Check.withTown(STAR);
        leadsRaw(x, "mark 0 hand;", 3, new int[] {4, 2}, new int[] {NONE, NONE}, 1);
        leadsRaw(x, "mark 0 other;", 3, new int[] {2, 4}, new int[] {NONE, NONE}, 1);
        leadsRaw(x, "mark 0 take hand;", 3, new int[] {4, 2}, new int[] {NONE, NONE}, 2);
        leadsRaw(x, "hand;", 3, new int[] {3, 3}, new int[] {0, 0}, NONE);
        leadsRaw(x, "mark 6 hand;", 1, new int[] {2, 2}, new int[] {NONE, NONE}, NONE);
        leadsRaw(x, "mark 0 hand mark 6;", 3, new int[] {4, 6}, new int[] {2, NONE}, 1);
    }

    private static void takes() {
        SidelessTown x = Check.withTown(STAR);
        leads(x, "take;", 0, 0, NONE);
        leads(x, "take;", 1, 1, 0);
        leads(x, "take take mark 1 hand;", 0, 6, NONE);
        leads(x, "mark 0 take back;", 4, 4, NONE);
        leads(x, "mark 0 take on;", 4, 0, 2);
        Check.say(x, "take;");
        Check.due("raw, take fails elsewhere, too", x.walk(1, 0, 1, 1), 0);
    }

    private static void parts() {
        SidelessTown x = Check.withTown(STAR);
        leadsRaw(x, "mark 0 hand back hand;", 3, new int[] {5, 1}, new int[] {NONE, NONE}, 1);
        leadsRaw(x, "mark 0 hand back;", 3, new int[] {0, 0}, new int[] {NONE, NONE}, 1);
        // Both fail at mark 9: they stay, and do not part at the hand behind.
        leadsRaw(x, "mark 0 mark 9 hand;", 3, new int[] {0, 0}, new int[] {1, 1}, NONE);
        leadsRaw(x, ";", 3, new int[] {3, 3}, new int[] {NONE, NONE}, NONE);
        Check.town(x, "corner 1 0;corner 2 1;corner 3 1;corner 4 4;street 0 3;street 0 1;street 0 2;");
        leadsRaw(x, "down hand;", 3, new int[] {1, 2}, new int[] {NONE, NONE}, 1);
        Check.due("parts at corners that are alike but two", x.parts(3, 1), 1);
    }

    private static void lost() {
        SidelessTown x = Check.withTown(STAR);
        Check.say(x, ";");
        Check.due("lost of no words", x.lost(0), 0);
        Check.say(x, "up;");
        Check.due("lost of one word", x.lost(3), 1 << 3);
        Check.due("lost of one word that fails", x.lost(5), 1 << 5);
        Check.say(x, "mark 0 take hand;");
        // Without mark 0 take fails at 3; without take the hand fails; without hand he is at 0.
        Check.due("lost(3)", x.lost(3), 1);
        // Without mark 0: take at 0, hand fails, as he came by none.
        Check.due("lost(0)", x.lost(0), 0);
        Check.say(x, "mark 0 back mark 0 mark 4;");
        // mark 0 fails behind mark 0; back leads from 0 to 3 and mark 4 fails there.
        Check.due("lost(3), marks", x.lost(3), 1);
        Check.say(x, "mark 0 back mark 0 take other;");
        Check.due("lost(3), other", x.lost(3), 1);
        Check.say(x, "up back up back;");
        // Without the first up back fails; without another word: 0, 5, 0 and 0, 3, 0 and 0, 3, 0.
        Check.due("lost(3), up and back", x.lost(3), 1);
        Check.say(x, "up back up;");
        // Without back: 0, 5; without the last up: 0, 3.
        Check.due("lost(3), two ends", x.lost(3), 1 << 5 | 1 << 3);
        Check.say(x, "mark 0 mark 1 mark 6;");
        Check.due("lost(2): mark 1 alone fails; mark 6 left out ends at 1", x.lost(2), 1 << 1);
    }

    /** Each of twelve words left out of a saying, its first, its last, the only one that fails. */
    private static void lostInAllWays() {
        SidelessTown x = Check.withTown("corner 1 0;corner 2 1;corner 3 2;corner 4 3;corner 5 4;corner 6 5;corner 7 6;"
            + "corner 8 7;street 0 1;street 1 2;street 2 3;street 3 4;street 4 5;street 5 6;street 6 7;");
        Check.say(x, "up up up;");
        Check.due("one step less", x.lost(0), 1 << 2);
        Check.due("one step less, where all fail", x.lost(5), 1 << 7);
        Check.due("two steps too many", x.lost(6), 0);
        Check.say(x, "up up down up mark 4;");
        // Left out: up: 1 0 1 and mark 4 fails; so without the second; down: 3, mark 4: 4; up: 1, fails; mark 4: 2.
        Check.due("four ways", x.lost(0), 1 << 4 | 1 << 2);
        Check.say(x, "mark 9 up;");
        Check.due("the word that fails left out", x.lost(6), 1 << 7);
        Check.say(x, "up mark 9;");
        Check.due("the last word that fails left out", x.lost(6), 1 << 7);
        Check.say(x, "mark 9 mark 9;");
        Check.due("another fails", x.lost(6), 0);
        Check.say(x, "up down ".repeat(6) + ";");
        // An up left out: down fails from 0, or leads from 0 behind it; a down left out: two ups, ends at 1.
        Check.due("twelve words from 0", x.lost(0), 1 << 1);
        Check.due("twelve words from 1", x.lost(1), 1 << 0 | 1 << 2);
        Check.due("twelve words from 7, without the first up", x.lost(7), 1 << 6);
        Check.town(x, STAR);
        Check.say(x, "mark 0 hand;");
        Check.due("not raw: no hand without take", x.lost(3), 1);
    }

    private static void meet() {
        SidelessTown x = Check.withTown(STAR);
        Check.due("without a saying", x.meet(1, 2, 0), NONE);
        Check.due("at one corner already", x.meet(4, 4, 0), 0);
        Check.say(x, "mark 0 mark 5;");
        Check.due("behind one word", x.meet(1, 2, 0), 1);
        Check.due("one fails", x.meet(1, 6, 0), NONE);
        Check.due("both fail", x.meet(0, 6, 0), NONE);
        Check.due("at one corner, where it fails", x.meet(0, 0, 0), 0);
        Check.say(x, "down up back up;");
        Check.due("first behind the first", x.meet(1, 2, 0), 1);
        Check.say(x, "mark 0 take mark 1;");
        Check.due("behind the last", x.meet(5, 5, 0), 0);
        Check.say(x, "up up;");
        Check.due("both up at once, to the top from two sides", x.meet(3, 1, 0), NONE);
        Check.say(x, "mark 0 take hand;");
        Check.due("with a hand", x.meet(3, 4, 0), 1);
        Check.town(x, "corner 1 0;corner 2 1;corner 3 2;corner 4 3;street 0 1;street 1 2;street 2 3;street 3 0;");
        Check.say(x, "up on up;");
        // From 0: 3 (4 is the greatest), on: 2, up: 3. From 2: 3, on: 0, up: 3.
        Check.due("met behind the first word", x.meet(0, 2, 0), 1);
        // From 1: 2, on: 3, up fails; from 3 up fails at once.
        Check.due("one fails at once", x.meet(1, 3, 0), NONE);
        Check.say(x, "up back down;");
        // From 0: 3, 0, and down fails. From 1: 2, 1, 0.
        Check.due("one fails late", x.meet(0, 1, 0), NONE);
        Check.say(x, "up up;");
        // From 1: 2, 3. From 2: 3 and then up fails.
        Check.due("one fails where the other comes", x.meet(1, 2, 0), NONE);
    }

    /** From 0 and 3 three ups lead to 6, from which one more leads to 7. */
    private static final String FORK = "corner 1 0;corner 2 0;corner 3 0;corner 1 0;corner 2 0;corner 3 0;corner 4 0;"
        + "corner 5 0;street 0 1;street 1 2;street 2 6;street 3 4;street 4 5;street 5 6;street 6 7;";

    private static void meetLate() {
        SidelessTown x = Check.withTown(FORK);
        Check.say(x, "up up up up;");
        Check.due("behind three words of four", x.meet(0, 3, 0), 3);
        Check.due("behind two words of four", x.meet(1, 4, 0), 2);
        Check.say(x, "up up up;");
        Check.due("behind the last word", x.meet(3, 0, 0), 3);
        Check.due("behind two of three", x.meet(4, 1, 0), 2);
        Check.due("one comes where the other was", x.meet(0, 1, 0), NONE);
        Check.say(x, "up up;");
        Check.due("the saying ends too soon", x.meet(0, 3, 0), NONE);
        Check.say(x, "up up mark 9;");
        Check.due("one that fails behind it does not matter", x.meet(1, 4, 0), 2);
        Check.say(x, "up mark 9 up;");
        Check.due("both fail ahead of it", x.meet(1, 4, 0), NONE);
        Check.say(x, "up down up up;");
        Check.due("on another way", x.meet(1, 4, 0), 4);
        Check.town(x, "corner 1 0;corner 2 1;corner 3 0;corner 2 2;corner 1 3;"
            + "street 0 1;street 1 2;street 2 3;street 3 4;");
        Check.say(x, "up hand;");
        Check.due("not raw: both fail without a hand", x.meet(0, 4, 0), NONE);
        Check.say(x, "up on;");
        Check.due("halfway round", x.meet(0, 4, 0), 2);
        Check.town(x, "corner 1 0;corner 2 1 well;corner 3 0;corner 2 2 well;corner 1 3;"
            + "street 0 1;street 1 2;street 2 3;street 3 4;");
        Check.say(x, "up take hand;");
        Check.due("each with a hand", x.meet(0, 4, 0), 3);
    }

    private static void soon() {
        SidelessTown x = Check.withTown(STAR);
        Check.due("at one corner already", x.meet(4, 4, 1), 0);
        Check.due("one word", x.meet(1, 2, 1), 1);
        // From 0 and 6 no mark and no slope leads to one corner: 0 to 1, 6 to 1 by mark 1 does.
        Check.due("one word, to 1", x.meet(0, 6, 1), 1);
        Check.town(x, "corner 1 0;corner 2 1;corner 3 2;corner 4 3;corner 5 4;"
            + "street 0 1;street 1 2;street 2 3;street 3 4;");
        // Up, up, up, up leads 0 to the top, where from any other corner one fails sooner.
        Check.due("by up and down none meet who stand oddly apart", x.meet(0, 3, 1), NONE);
        Check.due("neighbours never meet", x.meet(0, 1, 1), NONE);
        Check.due("two apart by the mark between", x.meet(0, 2, 1), 1);
        // 0 and 4: the marks beside them differ, up fails at 4, down at 0.
        Check.due("the two ends", x.meet(0, 4, 1), NONE);
        for (int c = 0; c < 5; c++) {
            x.mark(c, 0);
        }
        // Mark 0 leads from an end alone: 0 and 4 to 1 and 3; then down: 0 and 2; then mark 0 fails at 2, up: 1 and 3.
        Check.due("the two ends, all of one mark", x.meet(0, 4, 1), NONE);
        Check.town(x, "corner 1 0;corner 2 0;corner 3 0;corner 4 0;corner 9 0;"
            + "street 0 1;street 1 4;street 2 3;street 3 4;");
        Check.due("two words up", x.meet(0, 2, 1), 2);
    }

    /** 1 and 2 beside 0; each has another of the same mark and height as 0, or not, so that one word alone leads. */
    private static void soonByOneWord() {
        String tail = "street 0 1;street 0 2;street 1 3;street 2 4;";
        SidelessTown x = Check.withTown("corner 9 0;corner 5 1;corner 5 1;corner 5 0;corner 5 0;" + tail);
        Check.due("by up", x.meet(1, 2, 1), 1);
        Check.town(x, "corner 1 0;corner 5 1;corner 5 1;corner 5 0;corner 5 0;" + tail);
        Check.due("by down", x.meet(1, 2, 1), 1);
        Check.town(x, "corner 5 0;corner 5 1;corner 5 1;corner 5 0;corner 5 0;" + tail);
        Check.due("by none", x.meet(1, 2, 1), NONE);
        for (int m = 0; m <= 9; m++) {
            x.mark(0, m);
            Check.due("by mark " + m, x.meet(1, 2, 1), m == 0 ? NONE : 1);
        }
        x.mark(3, 9);
        Check.due("mark 9 for one of them leads to two", x.meet(1, 2, 1), NONE);
        x.mark(3, 8);
        x.mark(4, 8);
        x.mark(0, 0);
        Check.due("by mark 0", x.meet(1, 2, 1), 1);
    }

    private static void soonLate() {
        SidelessTown x = Check.withTown(FORK);
        Check.due("three words", x.meet(0, 3, 1), 3);
        Check.due("three words, the other way round", x.meet(3, 0, 1), 3);
        Check.due("two words", x.meet(1, 4, 1), 2);
        Check.due("one word", x.meet(5, 2, 1), 1);
        Check.due("no words", x.meet(7, 7, 1), 0);
        Check.due("the top has no up, and no mark of its own", x.meet(6, 7, 1), NONE);
        Check.due("no saying is walked", x.count(4), 0);
    }

    private static void wrongNumbers() {
        SidelessTown x = Check.withTown("corner 1 1;corner 2 2;street 0 1;");
        int[][] walks = {{-1, 0, 0, 0}, {2, 0, 0, 0}, {0, 2, 0, 0}, {0, -1, 0, 0}, {0, 0, 2, 0}, {0, 0, -1, 0},
            {0, 0, 0, 2}, {0, 0, 0, -1}};
        for (int[] w : walks) {
            Check.due("walk of wrong numbers", x.walk(w[0], w[1], w[2], w[3]), BAD);
        }
        int[][] pairs = {{-1, 0}, {2, 0}, {0, 2}, {0, -1}};
        for (int[] p : pairs) {
            Check.due("parts of wrong numbers", x.parts(p[0], p[1]), BAD);
        }
        Check.due("lost(-1)", x.lost(-1), BAD);
        Check.due("lost(2)", x.lost(2), BAD);
        int[][] meets = {{-1, 0, 0}, {2, 0, 0}, {0, -1, 0}, {0, 2, 0}, {0, 0, 2}, {0, 0, -1}};
        for (int[] m : meets) {
            Check.due("meet of wrong numbers", x.meet(m[0], m[1], m[2]), BAD);
        }
        SidelessTown none = new SidelessTown();
        Check.due("walk without a town", none.walk(0, 0, 0, 0), BAD);
        Check.due("parts without a town", none.parts(0, 0), BAD);
        Check.due("lost without a town", none.lost(0), BAD);
        Check.due("meet without a town", none.meet(0, 0, 0), BAD);
    }
}
