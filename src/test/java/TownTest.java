/** Promises 11 to 13, 24, 25 and 30: what is asked of a corner, a mark, a word; images kept; counts. */
final class TownTest {
    private static final int BAD = -1000001, STATE = -1000002, NONE = -1000000;

    public static void main(String[] args) {
        corner();
        cornersOfMost();
        mark();
        allMarks();
        word();
        images();
        imagesOfSayings();
        counts();
        Check.end();
    }

    private static void corner() {
        SidelessTown x = Check.withTown("corner 10 3 well;corner 20 4;corner 30 5;street 0 2;street 1 0;street 2 1;");
        int[][] want = {{10, 3, 1, 2, 2, 1}, {20, 4, 0, 2, 0, 2}, {30, 5, 0, 2, 0, 1}};
        for (int c = 0; c < 3; c++) {
            for (int i = 0; i < 4; i++) {
                Check.due("corner(" + c + ", " + i + ")", x.corner(c, i), want[c][i]);
            }
            Check.due("corner(" + c + ", 10)", x.corner(c, 10), want[c][4]);
            Check.due("corner(" + c + ", 11)", x.corner(c, 11), want[c][5]);
            Check.due("corner(" + c + ", 12)", x.corner(c, 12), NONE);
            Check.due("corner(" + c + ", 15)", x.corner(c, 15), NONE);
            for (int what : new int[] {-1, 4, 9, 16, Integer.MAX_VALUE, Integer.MIN_VALUE}) {
                Check.due("corner(" + c + ", " + what + ")", x.corner(c, what), BAD);
            }
        }
        Check.due("corner(3, 0)", x.corner(3, 0), BAD);
        Check.due("corner(-1, 0)", x.corner(-1, 0), BAD);
        Check.town(x, "corner 1 1;corner 2 2;street 0 1;");
        Check.due("a corner of the town before", x.corner(2, 0), BAD);
        Check.due("streets of the town before", x.corner(0, 11), NONE);
        Check.due("corner without a town", new SidelessTown().corner(0, 0), BAD);
    }

    /** Eight corners, six streets at corner 7 and twelve in all, the least and greatest numbers. */
    private static void cornersOfMost() {
        SidelessTown x = Check.withTown("corner 0 0 well;corner 99 9;" + "corner 50 5;".repeat(6)
            + "street 7 3;street 1 7;street 7 5;street 2 7;street 7 6;street 0 7;"
            + "street 0 1;street 1 2;street 2 3;street 3 4;street 4 5;street 5 6;");
        Check.due("corners", x.count(1), 8);
        Check.due("streets", x.count(2), 12);
        Check.due("wells", x.count(3), 1);
        Check.due("height 0", x.corner(0, 0), 0);
        Check.due("mark 0", x.corner(0, 1), 0);
        Check.due("height 99", x.corner(1, 0), 99);
        Check.due("mark 9", x.corner(1, 1), 9);
        Check.due("six streets", x.corner(7, 3), 6);
        int[][] order = {{7, 1}, {7, 0, 2}, {7, 1, 3}, {7, 2, 4}, {3, 5}, {7, 4, 6}, {7, 5}, {3, 1, 5, 2, 6, 0}};
        for (int c = 0; c < 8; c++) {
            Check.due("streets at " + c, x.corner(c, 3), order[c].length);
            for (int i = 0; i < 6; i++) {
                Check.due("corner(" + c + ", " + (10 + i) + ")", x.corner(c, 10 + i),
                    i < order[c].length ? order[c][i] : NONE);
            }
            Check.due("corner(" + c + ", 16)", x.corner(c, 16), BAD);
        }
        Check.due("corner(8, 0)", x.corner(8, 0), BAD);
        Check.town(x, "corner 1 1;corner 1 1;corner 1 1;street 0 2;");
        Check.due("no streets", x.corner(1, 3), 0);
        Check.due("no streets: none leads anywhere", x.corner(1, 10), NONE);
        Check.due("no streets: at no place", x.corner(1, 15), NONE);
    }

    private static void mark() {
        SidelessTown x = Check.withTown("corner 1 1;corner 2 2;corner 3 2;street 0 1;street 0 2;");
        Check.say(x, "mark 2;");
        Check.due("two have the mark", x.walk(0, 0, 0, 1), 0);
        Check.due("mark(2, 9)", x.mark(2, 9), 2);
        Check.due("corner(2, 1)", x.corner(2, 1), 9);
        Check.due("one has it", x.walk(0, 0, 0, 0), 1);
        Check.due("mark(2, 0)", x.mark(2, 0), 9);
        Check.due("mark(2, 10)", x.mark(2, 10), BAD);
        Check.due("mark(2, -1)", x.mark(2, -1), BAD);
        Check.due("mark(3, 1)", x.mark(3, 1), BAD);
        Check.due("it stays", x.corner(2, 1), 0);
        Check.due("turns see marks", x.laid(0, -1, 0), 1);
        x.mark(2, 2);
        Check.due("heights tell the two apart", x.laid(0, -1, 0), 1);
    }

    private static void allMarks() {
        SidelessTown x = Check.withTown("corner 1 1;corner 2 2;street 0 1;");
        int was = 2;
        for (int m = 9; m >= 0; m--) {
            Check.due("mark(1, " + m + ")", x.mark(1, m), was);
            Check.due("mark(1, " + m + ") again", x.mark(1, m), m);
            Check.due("corner(1, 1)", x.corner(1, 1), m);
            Check.due("the other's stays", x.corner(0, 1), 1);
            Check.due("shortest sees it", x.shortest(0, 1, 0, -1), 1);
            Check.due("apart sees it", x.apart(1, 1), 2);
            was = m;
        }
        Check.due("a town that is read has its own", Check.town(x, "corner 1 1;corner 2 2;street 0 1;"), 2);
        Check.due("corner(1, 1)", x.corner(1, 1), 2);
        Check.due("a corner of none", new SidelessTown().mark(0, 0), BAD);
    }

    private static void word() {
        SidelessTown x = new SidelessTown();
        Check.due("word(0)", x.word(0), NONE);
        Check.due("word(-1)", x.word(-1), BAD);
        Check.say(x, "mark 3 take;");
        Check.due("a mark", x.word(0), 23);
        Check.due("take", x.word(1), 7);
        Check.due("behind all", x.word(2), NONE);
        Check.due("far behind all", x.word(Integer.MAX_VALUE), NONE);
        Check.due("far ahead", x.word(Integer.MIN_VALUE), BAD);
    }

    private static void images() {
        SidelessTown x = new SidelessTown();
        Check.due("image(0) of no town", x.image(0), STATE);
        Check.due("image(2): BAD goes first", x.image(2), BAD);
        Check.due("image(-1)", x.image(-1), BAD);
        Check.due("restore(0) of none", x.restore(0), STATE);
        Check.due("restore(-1)", x.restore(-1), BAD);
        Check.due("restore(2)", x.restore(2), BAD);
        Check.town(x, "corner 1 1;corner 2 2;street 0 1;");
        Check.due("image(0), without a saying", x.image(0), 1);
        Check.say(x, "up;");
        Check.due("image(1)", x.image(1), 1);
        x.mark(0, 7);
        Check.town(x, "corner 3 3;corner 3 3;corner 3 3;street 0 1;street 1 2;");
        Check.say(x, "down down;");
        Check.due("two turns", x.laid(0, -1, 0), 2);
        Check.due("restore(1)", x.restore(1), 1);
        Check.due("its corners", x.count(1), 2);
        Check.due("its mark", x.corner(0, 1), 1);
        Check.due("its saying", x.count(4), 1);
        Check.due("its streets", x.corner(1, 11), NONE);
        Check.due("its turns", x.laid(0, -1, 0), 1);
        x.mark(0, 8);
        Check.due("restore(0)", x.restore(0), 1);
        Check.due("no saying then", x.count(4), 0);
        Check.due("a mark set behind it is not the image's", x.corner(0, 1), 1);
        x.mark(0, 6);
        Check.due("image(0) again", x.image(0), 1);
        x.restore(1);
        Check.due("the other image stayed", x.corner(0, 1), 1);
        x.restore(0);
        Check.due("the latest one", x.corner(0, 1), 6);
    }

    private static void imagesOfSayings() {
        SidelessTown x = Check.withTown("corner 1 1;corner 2 2;street 0 1;");
        Check.say(x, "up mark 4 take;");
        x.image(0);
        Check.say(x, ";");
        x.image(1);
        Check.say(x, "back;");
        x.row(0, 0, 1);
        x.restore(0);
        int[] want = {0, 24, 7, NONE};
        for (int k = 0; k < 4; k++) {
            Check.due("word(" + k + ") of image 0", x.word(k), want[k]);
        }
        Check.due("words of image 0", x.count(4), 3);
        x.words(0, 0, 1);
        x.restore(0);
        Check.due("a saying made behind it is not the image's", x.word(0), 0);
        Check.due("words of image 0 again", x.count(4), 3);
        x.restore(1);
        Check.due("words of image 1", x.count(4), 0);
        Check.due("restore(1) twice", x.restore(1), 1);
        Check.due("image(0) of what image 1 kept", x.image(0), 1);
        Check.say(x, "up;");
        x.restore(0);
        Check.due("words of image 0, kept anew", x.count(4), 0);
        x.feed(';', 1);
        x.restore(1);
        Check.due("the tape is no part of it", x.count(5), 1);
        Check.due("rows are no part of it", x.count(0), 1);
    }

    private static void counts() {
        SidelessTown x = Check.withTown("corner 1 1 well;corner 2 2;corner 3 3 well;street 0 1;street 2 1;");
        Check.say(x, "up up mark 1 take;");
        x.row(3, 0, 0);
        x.row(4, 1, 1);
        x.row(4, 2, 2);
        x.feed(0, 5);
        int[] want = {2, 3, 2, 2, 4, 5};
        for (int what = 0; what < want.length; what++) {
            Check.due("count(" + what + ")", x.count(what), want[what]);
        }
        Check.due("count(6)", x.count(6), BAD);
        Check.due("count(-1)", x.count(-1), BAD);
    }
}
