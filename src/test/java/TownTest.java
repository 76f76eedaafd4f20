/** Promises 11 to 13, 24, 25 and 30: what is asked of a corner, a mark, a word; images kept; counts. */
final class TownTest {
    private static final int BAD = -1000001, STATE = -1000002, NONE = -1000000;

    public static void main(String[] args) {
        corner();
        mark();
        word();
        images();
        counts();
        Check.end();
    }

    private static void corner() {
        SidelessTown x = Check.withTown("corner 10 3 well;corner 20 4;corner 30 5;street 0 2;street 1 0;street 2 1;");
        int[][] want = {{10, 3, 1, 2, 2, 1}, {20, 4, 0, 2, 0, 2}, {30, 5, 0, 2, 0, 1}};
        for (int c = 0; c < 3; c++) {
            for (int i = 0; i < 4; i++) {
                Check.due("corner(" + c + ", " + i + ")", x.corner(c, i), want[c][i]);
            }
            Check.due("corner(" + c + ", 10)", x.corner(c, 10), want[c][4]);
            Check.due("corner(" + c + ", 11)", x.corner(c, 11), want[c][5]);
            Check.due("corner(" + c + ", 12)", x.corner(c, 12), NONE);
            Check.due("corner(" + c + ", 15)", x.corner(c, 15), NONE);
            for (int what : new int[] {-1, 4, 9, 16, Integer.MAX_VALUE, Integer.MIN_VALUE}) {
                Check.due("corner(" + c + ", " + what + ")", x.corner(c, what), BAD);
            }
        }
        Check.due("corner(3, 0)", x.corner(3, 0), BAD);
        Check.due("corner(-1, 0)", x.corner(-1, 0), BAD);
        Check.town(x, "corner 1 1;corner 2 2;street 0 1;");
        Check.due("a corner of the town before", x.corner(2, 0), BAD);
        Check.due("streets of the town before", x.corner(0, 11), NONE);
        Check.due("corner without a town", new SidelessTown().corner(0, 0), BAD);
    }

    private static void mark() {
        SidelessTown x = Check.withTown("corner 1 1;corner 2 2;corner 3 2;street 0 1;street 0 2;");
        Check.say(x, "mark 2;");
        Check.due("two have the mark", x.walk(0, 0, 0, 1), 0);
        Check.due("mark(2, 9)", x.mark(2, 9), 2);
        Check.due("corner(2, 1)", x.corner(2, 1), 9);
        Check.due("one has it", x.walk(0, 0, 0, 0), 1);
        Check.due("mark(2, 0)", x.mark(2, 0), 9);
        Check.due("mark(2, 10)", x.mark(2, 10), BAD);
        Check.due("mark(2, -1)", x.mark(2, -1), BAD);
        Check.due("mark(3, 1)", x.mark(3, 1), BAD);
        Check.due("it stays", x.corner(2, 1), 0);
        Check.due("turns see marks", x.laid(0, -1, 0), 1);
        x.mark(2, 2);
        Check.due("heights tell the two apart", x.laid(0, -1, 0), 1);
    }

    private static void word() {
        SidelessTown x = new SidelessTown();
        Check.due("word(0)", x.word(0), NONE);
        Check.due("word(-1)", x.word(-1), BAD);
        Check.say(x, "mark 3 take;");
        Check.due("a mark", x.word(0), 23);
        Check.due("take", x.word(1), 7);
        Check.due("behind all", x.word(2), NONE);
        Check.due("far behind all", x.word(Integer.MAX_VALUE), NONE);
        Check.due("far ahead", x.word(Integer.MIN_VALUE), BAD);
    }

    private static void images() {
        SidelessTown x = new SidelessTown();
        Check.due("image(0) of no town", x.image(0), STATE);
        Check.due("image(2): BAD goes first", x.image(2), BAD);
        Check.due("image(-1)", x.image(-1), BAD);
        Check.due("restore(0) of none", x.restore(0), STATE);
        Check.due("restore(-1)", x.restore(-1), BAD);
        Check.due("restore(2)", x.restore(2), BAD);
        Check.town(x, "corner 1 1;corner 2 2;street 0 1;");
        Check.due("image(0), without a saying", x.image(0), 1);
        Check.say(x, "up;");
        Check.due("image(1)", x.image(1), 1);
        x.mark(0, 7);
        Check.town(x, "corner 3 3;corner 3 3;corner 3 3;street 0 1;street 1 2;");
        Check.say(x, "down down;");
        Check.due("two turns", x.laid(0, -1, 0), 2);
        Check.due("restore(1)", x.restore(1), 1);
        Check.due("its corners", x.count(1), 2);
        Check.due("its mark", x.corner(0, 1), 1);
        Check.due("its saying", x.count(4), 1);
        Check.due("its streets", x.corner(1, 11), NONE);
        Check.due("its turns", x.laid(0, -1, 0), 1);
        x.mark(0, 8);
        Check.due("restore(0)", x.restore(0), 1);
        Check.due("no saying then", x.count(4), 0);
        Check.due("a mark set behind it is not the image's", x.corner(0, 1), 1);
        x.mark(0, 6);
        Check.due("image(0) again", x.image(0), 1);
        x.restore(1);
        Check.due("the other image stayed", x.corner(0, 1), 1);
        x.restore(0);
        Check.due("the latest one", x.corner(0, 1), 6);
    }

    private static void counts() {
        SidelessTown x = Check.withTown("corner 1 1 well;corner 2 2;corner 3 3 well;street 0 1;street 2 1;");
        Check.say(x, "up up mark 1 take;");
        x.row(3, 0, 0);
        x.row(4, 1, 1);
        x.row(4, 2, 2);
        x.feed(0, 5);
        int[] want = {2, 3, 2, 2, 4, 5};
        for (int what = 0; what < want.length; what++) {
            Check.due("count(" + what + ")", x.count(what), want[what]);
        }
        Check.due("count(6)", x.count(6), BAD);
        Check.due("count(-1)", x.count(-1), BAD);
    }
}
