/** Promises 1 to 5, and status() (31) of their findings. */
final class RowsTest {
    private static final int BAD = -1000001, NULL = -1000011, PLACE = -1000012, SIZE = -1000014, STORE = -1000015;

    public static void main(String[] args) {
        newObject();
        row();
        rowAnew();
        set();
        lanes();
        lanesEnds();
        copy();
        copyOntoItself();
        copyOfMost();
        copyInEachLane();
        drop();
        status();
        Check.end();
    }

    private static void newObject() {
        SidelessTown x = new SidelessTown();
        for (int what = 0; what <= 5; what++) {
            Check.due("new: count(" + what + ")", x.count(what), 0);
        }
        Check.due("new: word(0)", x.word(0), SidelessTown.NONE);
        Check.due("new: ends()", x.ends(), SidelessTown.STATE);
        Check.due("new: fault()", x.fault(), 0);
        Check.due("new: status()", x.status(), 0);
        Check.due("new: trace(0)", x.trace(0), SidelessTown.NONE);
        Check.due("new: restore(1)", x.restore(1), SidelessTown.STATE);
    }

    private static void row() {
        SidelessTown x = new SidelessTown();
        Check.due("row(0, 0, 0)", x.row(0, 0, 0), 0);
        Check.due("row(7, 2, 40)", x.row(7, 2, 40), 40);
        Check.due("row(-1, 0, 1)", x.row(-1, 0, 1), BAD);
        Check.due("row(8, 0, 1)", x.row(8, 0, 1), BAD);
        Check.due("row(0, -1, 1)", x.row(0, -1, 1), BAD);
        Check.due("row(0, 3, 1)", x.row(0, 3, 1), BAD);
        Check.due("row(0, 0, 41)", x.row(0, 0, 41), BAD);
        Check.due("row(0, 0, max)", x.row(0, 0, Integer.MAX_VALUE), BAD);
        Check.due("row(0, 0, -1)", x.row(0, 0, -1), SIZE);
        Check.due("row(0, 0, min)", x.row(0, 0, Integer.MIN_VALUE), SIZE);
        Check.due("row(0, 3, -1): BAD goes first", x.row(0, 3, -1), BAD);
        Check.due("two rows", x.count(0), 2);
        x.set(7, 39, 5);
        Check.due("row(7, 2, -1)", x.row(7, 2, -1), SIZE);
        x.row(6, 2, 40);
        x.copy(7, 39, 6, 0, 1);
        Check.due("a refused row leaves the one there", x.drop(7), 40);
        Check.due("row 7 anew", x.row(7, 2, 40), 40);
        x.copy(7, 39, 6, 0, 1);
        x.say();
        Check.due("its items are 0 again, as up", x.words(6, 0, 1), 1);
        Check.due("word(0)", x.word(0), 0);
    }

    /** What item i of a row is, where that is the number of a word; the saying is another behind it. */
    private static int item(SidelessTown x, int row, int i) {
        return x.words(row, i, 1) == 1 ? x.word(0) : -1;
    }

    private static void rowAnew() {
        SidelessTown x = new SidelessTown();
        for (int row = 0; row < 8; row++) {
            Check.due("row " + row + " is missing at first", x.drop(row), NULL);
        }
        for (int lane = 0; lane <= 2; lane++) {
            x.row(1, lane, 40);
            for (int i = 0; i < 40; i++) {
                x.set(1, i, 27);
            }
            Check.due("row(1, " + lane + ", 40)", x.row(1, lane, 40), 40);
            for (int i = 0; i < 40; i++) {
                Check.due("lane " + lane + ", 0 at first: item " + i, item(x, 1, i), 0);
            }
        }
        x.row(1, 0, 5);
        Check.due("a byte", x.set(1, 0, 300), 44);
        x.row(1, 2, 5);
        Check.due("an int, in place of it", x.set(1, 0, 300), 300);
        x.row(1, 1, 1);
        Check.due("a short, in place of it", x.set(1, 0, 70000), 4464);
        Check.due("fewer items, in place of them", x.set(1, 1, 0), PLACE);
        Check.due("one row all the while", x.count(0), 1);
        x.row(1, 1, 0);
        Check.due("a row of no items has no item 0", x.set(1, 0, 0), PLACE);
        Check.due("a row of no items is one", x.count(0), 1);
        Check.due("row(1, 1, 3)", x.row(1, 1, 3), 3);
        x.set(1, 2, 25);
        x.row(0, 1, 40);
        x.row(2, 1, 40);
        Check.due("the rows beside it leave it", item(x, 1, 2), 25);
        for (int row = 0; row < 8; row++) {
            x.row(row, row % 3, row);
        }
        Check.due("eight rows", x.count(0), 8);
        for (int row = 0; row < 8; row++) {
            Check.due("drop(" + row + ")", x.drop(row), row);
            Check.due("rows behind it", x.count(0), 7 - row);
        }
    }

    private static void set() {
        SidelessTown x = new SidelessTown();
        x.row(2, 2, 3);
        Check.due("set(2, 0, 9)", x.set(2, 0, 9), 9);
        Check.due("set(2, 2, min)", x.set(2, 2, Integer.MIN_VALUE), Integer.MIN_VALUE);
        Check.due("set(2, 3, 9)", x.set(2, 3, 9), PLACE);
        Check.due("set(2, -1, 9)", x.set(2, -1, 9), PLACE);
        Check.due("set(2, max, 9)", x.set(2, Integer.MAX_VALUE, 9), PLACE);
        Check.due("set(1, -1, 9): NULL goes first", x.set(1, -1, 9), NULL);
        Check.due("set(8, 0, 9)", x.set(8, 0, 9), BAD);
        Check.due("set(-1, 0, 9)", x.set(-1, 0, 9), BAD);
    }

    private static void lanes() {
        SidelessTown x = new SidelessTown();
        x.row(0, 0, 1);
        x.row(1, 1, 1);
        x.row(2, 2, 1);
        Check.due("byte 200", x.set(0, 0, 200), -56);
        Check.due("byte -129", x.set(0, 0, -129), 127);
        Check.due("byte 256", x.set(0, 0, 256), 0);
        Check.due("short 40000", x.set(1, 0, 40000), -25536);
        Check.due("short 65536 + 7", x.set(1, 0, 65543), 7);
        Check.due("short 200", x.set(1, 0, 200), 200);
        Check.due("int -1", x.set(2, 0, -1), -1);
    }

    private static void lanesEnds() {
        SidelessTown x = new SidelessTown();
        int[][] kept = {
            {127, 127, 127, 127}, {128, -128, 128, 128}, {-128, -128, -128, -128}, {255, -1, 255, 255},
            {-256, 0, -256, -256}, {-257, -1, -257, -257}, {32767, -1, 32767, 32767}, {32768, 0, -32768, 32768},
            {-32768, 0, -32768, -32768}, {-32769, -1, 32767, -32769}, {65535, -1, -1, 65535},
            {Integer.MAX_VALUE, -1, -1, Integer.MAX_VALUE}, {Integer.MIN_VALUE, 0, 0, Integer.MIN_VALUE},
            {0x12348182, -126, -32382, 0x12348182}};
        for (int lane = 0; lane <= 2; lane++) {
            x.row(lane, lane, 2);
            for (int[] k : kept) {
                Check.due("lane " + lane + ": " + k[0], x.set(lane, 1, k[0]), k[lane + 1]);
            }
        }
        x.row(0, 0, 2);
        x.set(0, 0, 256 + 7);
        Check.due("a byte, as it was kept", item(x, 0, 0), 7);
        x.row(1, 1, 2);
        x.set(1, 0, -65536 + 29);
        Check.due("a short, as it was kept", item(x, 1, 0), 29);
        x.set(1, 0, 256 + 7);
        Check.due("a short beyond a byte", x.words(1, 0, 1), BAD);
    }

    private static void copy() {
        SidelessTown x = new SidelessTown();
        x.row(0, 2, 4);
        x.row(1, 2, 2);
        x.row(2, 1, 4);
        x.set(0, 2, 21);
        x.set(0, 3, 7);
        Check.due("copy(0, 2, 1, 0, 2)", x.copy(0, 2, 1, 0, 2), 2);
        x.words(1, 0, 2);
        Check.due("copied, first", x.word(0), 21);
        Check.due("copied, second", x.word(1), 7);
        Check.due("none at the ends", x.copy(0, 4, 1, 2, 0), 0);
        Check.due("none beyond an end", x.copy(0, 5, 1, 0, 0), PLACE);
        Check.due("beyond the end of a", x.copy(0, 3, 1, 0, 2), PLACE);
        Check.due("beyond the end of b", x.copy(0, 0, 1, 1, 2), PLACE);
        Check.due("n below 0", x.copy(0, 1, 1, 1, -1), PLACE);
        Check.due("i below 0", x.copy(0, -1, 1, 0, 1), PLACE);
        Check.due("j below 0", x.copy(0, 0, 1, -1, 1), PLACE);
        Check.due("n at its most", x.copy(0, 1, 1, 1, Integer.MAX_VALUE), PLACE);
        Check.due("i at its most", x.copy(0, Integer.MAX_VALUE, 1, 0, 1), PLACE);
        Check.due("j and n at their most", x.copy(0, 0, 1, Integer.MAX_VALUE, Integer.MAX_VALUE), PLACE);
        Check.due("n at its least", x.copy(0, 0, 1, 0, Integer.MIN_VALUE), PLACE);
        Check.due("STORE goes ahead of PLACE", x.copy(0, 9, 2, 9, 9), STORE);
        Check.due("STORE of none", x.copy(0, 0, 2, 0, 0), STORE);
        Check.due("NULL goes ahead of PLACE", x.copy(0, 9, 3, 9, 9), NULL);
        Check.due("NULL of the first", x.copy(3, 0, 0, 0, 1), NULL);
        Check.due("BAD a", x.copy(8, 0, 0, 0, 1), BAD);
        Check.due("BAD b goes ahead of NULL", x.copy(3, 0, -1, 0, 1), BAD);
    }

    private static void copyOntoItself() {
        for (int to = 0; to <= 2; to++) {
            SidelessTown x = new SidelessTown();
            x.row(0, 0, 5);
            for (int i = 0; i < 5; i++) {
                x.set(0, i, 20 + i);
            }
            Check.due("copy(0, 1, 0, " + to + ", 3)", x.copy(0, 1, 0, to, 3), 3);
            x.words(0, to, 3);
            for (int i = 0; i < 3; i++) {
                Check.due("as it was ahead, item " + i, x.word(i), 21 + i);
            }
        }
    }

    private static SidelessTown withMost() {
        SidelessTown x = new SidelessTown();
        x.row(3, 2, 40);
        for (int i = 0; i < 40; i++) {
            x.set(3, i, 20 + i % 10);
        }
        return x;
    }

    /** Of all 40 items: what lies beside those that are copied stays, from whichever side they come. */
    private static void copyOfMost() {
        int[][] copies = {{0, 0, 40}, {0, 1, 39}, {1, 0, 39}, {0, 40, 0}, {40, 40, 0}, {3, 8, 20}, {8, 3, 20}, {0, 20, 20},
            {20, 0, 20}, {39, 0, 1}, {0, 39, 1}, {5, 6, 1}, {6, 5, 1}, {7, 7, 9}};
        for (int[] c : copies) {
            SidelessTown x = withMost();
            String call = "copy(3, " + c[0] + ", 3, " + c[1] + ", " + c[2] + ")";
            Check.due(call, x.copy(3, c[0], 3, c[1], c[2]), c[2]);
            for (int i = 0; i < 40; i++) {
                int from = i >= c[1] && i < c[1] + c[2] ? i - c[1] + c[0] : i;
                Check.due(call + ": item " + i, item(x, 3, i), 20 + from % 10);
            }
        }
        SidelessTown x = withMost();
        Check.due("41 of 40", x.copy(3, 0, 3, 0, 41), PLACE);
        Check.due("40 from 1 on", x.copy(3, 1, 3, 0, 40), PLACE);
        Check.due("40 to 1 on", x.copy(3, 0, 3, 1, 40), PLACE);
        Check.due("1 from 40 on", x.copy(3, 40, 3, 0, 1), PLACE);
        Check.due("none from 41 on", x.copy(3, 41, 3, 0, 0), PLACE);
    }

    private static void copyInEachLane() {
        for (int lane = 0; lane <= 2; lane++) {
            SidelessTown x = new SidelessTown();
            x.row(0, lane, 4);
            x.row(7, lane, 6);
            for (int i = 0; i < 4; i++) {
                x.set(0, i, 21 + i);
            }
            Check.due("copy(0, 1, 7, 3, 2)", x.copy(0, 1, 7, 3, 2), 2);
            int[] want = {0, 0, 0, 22, 23, 0};
            for (int i = 0; i < 6; i++) {
                Check.due("lane " + lane + ": item " + i + " of b", item(x, 7, i), want[i]);
            }
            for (int i = 0; i < 4; i++) {
                Check.due("lane " + lane + ": item " + i + " of a", item(x, 0, i), 21 + i);
            }
        }
    }

    private static void drop() {
        SidelessTown x = new SidelessTown();
        Check.due("drop(0) of none", x.drop(0), NULL);
        x.row(0, 1, 6);
        Check.due("drop(0)", x.drop(0), 6);
        Check.due("drop(0) again", x.drop(0), NULL);
        Check.due("set(0, 0, 1) behind it", x.set(0, 0, 1), NULL);
        Check.due("count(0) behind it", x.count(0), 0);
        x.row(0, 2, 0);
        Check.due("drop(0) of no items", x.drop(0), 0);
        Check.due("drop(8)", x.drop(8), BAD);
        Check.due("drop(-1)", x.drop(-1), BAD);
    }

    private static void status() {
        SidelessTown x = new SidelessTown();
        x.drop(0);
        Check.due("1 NULL", x.status(), 1);
        x.row(0, 2, 3);
        Check.due("no finding", x.status(), 0);
        x.set(0, 3, 0);
        Check.due("2 PLACE", x.status(), 2);
        x.set(9, 3, 0);
        Check.due("BAD leaves it", x.status(), 2);
        x.row(0, 2, -1);
        Check.due("4 SIZE", x.status(), 4);
        x.row(1, 1, 3);
        x.copy(0, 0, 1, 0, 1);
        Check.due("5 STORE", x.status(), 5);
        x.count(0);
        x.feed(59, 1);
        x.say();
        x.town();
        x.image(0);
        x.walk(0, 0, 0, 0);
        Check.due("calls without a ROW leave it", x.status(), 5);
        x.set(0, 0, 2);
        x.words(0, 0, 4);
        Check.due("words: PLACE", x.status(), 2);
        x.words(0, 0, 1);
        Check.due("words: a BAD item leaves it", x.status(), 2);
        x.words(0, 1, 2);
        Check.due("words: none", x.status(), 0);
        x.as(0, 2);
        Check.due("3 KIND", x.status(), 3);
        x.as(0, 6);
        Check.due("as: BAD leaves it", x.status(), 3);
        x.kind(0);
        x.ask(0, 0);
        Check.due("kind and ask leave it", x.status(), 3);
        x.as(0, 1);
        Check.due("as: none", x.status(), 0);
    }
}
