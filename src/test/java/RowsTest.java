/** Promises 1 to 5, and status() (31) of their findings. */
final class RowsTest {
    private static final int BAD = -1000001, NULL = -1000011, PLACE = -1000012, SIZE = -1000014, STORE = -1000015;

    public static void main(String[] args) {
        newObject();
        row();
        set();
        lanes();
        copy();
        copyOntoItself();
        drop();
        status();
        Check.end();
    }

    private static void newObject() {
        SidelessTown x = new SidelessTown();
        for (int what = 0; what <= 5; what++) {
            Check.due("new: count(" + what + ")", x.count(what), 0);
        }
        Check.due("new: word(0)", x.word(0), SidelessTown.NONE);
        Check.due("new: ends()", x.ends(), SidelessTown.STATE);
        Check.due("new: fault()", x.fault(), 0);
        Check.due("new: status()", x.status(), 0);
        Check.due("new: trace(0)", x.trace(0), SidelessTown.NONE);
        Check.due("new: restore(1)", x.restore(1), SidelessTown.STATE);
    }

    private static void row() {
        SidelessTown x = new SidelessTown();
        Check.due("row(0, 0, 0)", x.row(0, 0, 0), 0);
        Check.due("row(7, 2, 40)", x.row(7, 2, 40), 40);
        Check.due("row(-1, 0, 1)", x.row(-1, 0, 1), BAD);
        Check.due("row(8, 0, 1)", x.row(8, 0, 1), BAD);
        Check.due("row(0, -1, 1)", x.row(0, -1, 1), BAD);
        Check.due("row(0, 3, 1)", x.row(0, 3, 1), BAD);
        Check.due("row(0, 0, 41)", x.row(0, 0, 41), BAD);
        Check.due("row(0, 0, max)", x.row(0, 0, Integer.MAX_VALUE), BAD);
        Check.due("row(0, 0, -1)", x.row(0, 0, -1), SIZE);
        Check.due("row(0, 0, min)", x.row(0, 0, Integer.MIN_VALUE), SIZE);
        Check.due("row(0, 3, -1): BAD goes first", x.row(0, 3, -1), BAD);
        Check.due("two rows", x.count(0), 2);
        x.set(7, 39, 5);
        Check.due("row(7, 2, -1)", x.row(7, 2, -1), SIZE);
        x.row(6, 2, 40);
        x.copy(7, 39, 6, 0, 1);
        Check.due("a refused row leaves the one there", x.drop(7), 40);
        Check.due("row 7 anew", x.row(7, 2, 40), 40);
        x.copy(7, 39, 6, 0, 1);
        x.say();
        Check.due("its items are 0 again, as up", x.words(6, 0, 1), 1);
        Check.due("word(0)", x.word(0), 0);
    }

    private static void set() {
        SidelessTown x = new SidelessTown();
        x.row(2, 2, 3);
        Check.due("set(2, 0, 9)", x.set(2, 0, 9), 9);
        Check.due("set(2, 2, min)", x.set(2, 2, Integer.MIN_VALUE), Integer.MIN_VALUE);
        Check.due("set(2, 3, 9)", x.set(2, 3, 9), PLACE);
        Check.due("set(2, -1, 9)", x.set(2, -1, 9), PLACE);
        Check.due("set(2, max, 9)", x.set(2, Integer.MAX_VALUE, 9), PLACE);
        Check.due("set(1, -1, 9): NULL goes first", x.set(1, -1, 9), NULL);
        Check.due("set(8, 0, 9)", x.set(8, 0, 9), BAD);
        Check.due("set(-1, 0, 9)", x.set(-1, 0, 9), BAD);
    }

    private static void lanes() {
        SidelessTown x = new SidelessTown();
        x.row(0, 0, 1);
        x.row(1, 1, 1);
        x.row(2, 2, 1);
        Check.due("byte 200", x.set(0, 0, 200), -56);
        Check.due("byte -129", x.set(0, 0, -129), 127);
        Check.due("byte 256", x.set(0, 0, 256), 0);
        Check.due("short 40000", x.set(1, 0, 40000), -25536);
        Check.due("short 65536 + 7", x.set(1, 0, 65543), 7);
        Check.due("short 200", x.set(1, 0, 200), 200);
        Check.due("int -1", x.set(2, 0, -1), -1);
    }

    private static void copy() {
        SidelessTown x = new SidelessTown();
        x.row(0, 2, 4);
        x.row(1, 2, 2);
        x.row(2, 1, 4);
        x.set(0, 2, 21);
        x.set(0, 3, 7);
        Check.due("copy(0, 2, 1, 0, 2)", x.copy(0, 2, 1, 0, 2), 2);
        x.words(1, 0, 2);
        Check.due("copied, first", x.word(0), 21);
        Check.due("copied, second", x.word(1), 7);
        Check.due("none at the ends", x.copy(0, 4, 1, 2, 0), 0);
        Check.due("none beyond an end", x.copy(0, 5, 1, 0, 0), PLACE);
        Check.due("beyond the end of a", x.copy(0, 3, 1, 0, 2), PLACE);
        Check.due("beyond the end of b", x.copy(0, 0, 1, 1, 2), PLACE);
        Check.due("n below 0", x.copy(0, 1, 1, 1, -1), PLACE);
        Check.due("i below 0", x.copy(0, -1, 1, 0, 1), PLACE);
        Check.due("j below 0", x.copy(0, 0, 1, -1, 1), PLACE);
        Check.due("n at its most", x.copy(0, 1, 1, 1, Integer.MAX_VALUE), PLACE);
        Check.due("i at its most", x.copy(0, Integer.MAX_VALUE, 1, 0, 1), PLACE);
        Check.due("j and n at their most", x.copy(0, 0, 1, Integer.MAX_VALUE, Integer.MAX_VALUE), PLACE);
        Check.due("n at its least", x.copy(0, 0, 1, 0, Integer.MIN_VALUE), PLACE);
        Check.due("STORE goes ahead of PLACE", x.copy(0, 9, 2, 9, 9), STORE);
        Check.due("STORE of none", x.copy(0, 0, 2, 0, 0), STORE);
        Check.due("NULL goes ahead of PLACE", x.copy(0, 9, 3, 9, 9), NULL);
        Check.due("NULL of the first", x.copy(3, 0, 0, 0, 1), NULL);
        Check.due("BAD a", x.copy(8, 0, 0, 0, 1), BAD);
        Check.due("BAD b goes ahead of NULL", x.copy(3, 0, -1, 0, 1), BAD);
    }

    private static void copyOntoItself() {
        for (int to = 0; to <= 2; to++) {
            SidelessTown x = new SidelessTown();
            x.row(0, 0, 5);
            for (int i = 0; i < 5; i++) {
                x.set(0, i, 20 + i);
            }
            Check.due("copy(0, 1, 0, " + to + ", 3)", x.copy(0, 1, 0, to, 3), 3);
            x.words(0, to, 3);
            for (int i = 0; i < 3; i++) {
                Check.due("as it was ahead, item " + i, x.word(i), 21 + i);
            }
        }
    }

    private static void drop() {
        SidelessTown x = new SidelessTown();
        Check.due("drop(0) of none", x.drop(0), NULL);
        x.row(0, 1, 6);
        Check.due("drop(0)", x.drop(0), 6);
        Check.due("drop(0) again", x.drop(0), NULL);
        Check.due("set(0, 0, 1) behind it", x.set(0, 0, 1), NULL);
        Check.due("count(0) behind it", x.count(0), 0);
        x.row(0, 2, 0);
        Check.due("drop(0) of no items", x.drop(0), 0);
        Check.due("drop(8)", x.drop(8), BAD);
        Check.due("drop(-1)", x.drop(-1), BAD);
    }

    private static void status() {
        SidelessTown x = new SidelessTown();
        x.drop(0);
        Check.due("1 NULL", x.status(), 1);
        x.row(0, 2, 3);
        Check.due("no finding", x.status(), 0);
        x.set(0, 3, 0);
        Check.due("2 PLACE", x.status(), 2);
        x.set(9, 3, 0);
        Check.due("BAD leaves it", x.status(), 2);
        x.row(0, 2, -1);
        Check.due("4 SIZE", x.status(), 4);
        x.row(1, 1, 3);
        x.copy(0, 0, 1, 0, 1);
        Check.due("5 STORE", x.status(), 5);
        x.count(0);
        x.feed(59, 1);
        x.say();
        x.town();
        x.image(0);
        x.walk(0, 0, 0, 0);
        Check.due("calls without a ROW leave it", x.status(), 5);
        x.set(0, 0, 2);
        x.words(0, 0, 4);
        Check.due("words: PLACE", x.status(), 2);
        x.words(0, 0, 1);
        Check.due("words: a BAD item leaves it", x.status(), 2);
        x.words(0, 1, 2);
        Check.due("words: none", x.status(), 0);
        x.as(0, 2);
        Check.due("3 KIND", x.status(), 3);
        x.as(0, 6);
        Check.due("as: BAD leaves it", x.status(), 3);
        x.kind(0);
        x.ask(0, 0);
        Check.due("kind and ask leave it", x.status(), 3);
        x.as(0, 1);
        Check.due("as: none", x.status(), 0);
    }
}
