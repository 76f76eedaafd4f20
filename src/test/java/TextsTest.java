/** Promises 6 to 10: the tape, towns and sayings read from it, words from a row, the latest fault. */
final class TextsTest {
    private static final int BAD = -1000001, FULL = -1000003, NULL = -1000011, PLACE = -1000012;
    private static final String TWO = "corner 5 1;corner 9 2;street 0 1;";

    public static void main(String[] args) {
        feed();
        tapeOfMostBytes();
        town();
        townsFaults();
        roomInTowns();
        say();
        sayingsFaults();
        words();
        fault();
        Check.end();
    }

    private static void feed() {
        SidelessTown x = new SidelessTown();
        Check.due("feed 1", x.feed(';', 1), 1);
        Check.due("feed 8", x.feed(0x2020202020202020L, 8), 9);
        Check.due("the highest bytes are left", x.feed(0x7878787878782020L, 2), 11);
        Check.due("feed 0", x.feed(0, 0), BAD);
        Check.due("feed 9", x.feed(0, 9), BAD);
        Check.due("feed -1", x.feed(0, -1), BAD);
        Check.due("bytes on the tape", x.count(5), 11);
        Check.due("they are a saying", x.say(), 0);
        Check.due("bytes behind it", x.count(5), 0);
        x.feed(0x75703bL, 3);
        Check.due("the highest first: up;", x.say(), 1);
        x.feed(0xffL, 1);
        Check.due("a byte above 127", x.say(), -1000100);
    }

    private static void tapeOfMostBytes() {
        SidelessTown x = new SidelessTown();
        for (int i = 0; i < 49; i++) {
            x.feed(0x2020202020202020L, 8);
        }
        Check.due("392 bytes", x.count(5), 392);
        Check.due("399 bytes", x.feed(0x20202020202020L, 7), 399);
        Check.due("401 bytes", x.feed(0x2020L, 2), FULL);
        Check.due("401 bytes: none comes", x.count(5), 399);
        Check.due("400 bytes", x.feed(';', 1), 400);
        Check.due("one more", x.feed(';', 1), FULL);
        Check.due("BAD goes first", x.feed(';', 9), BAD);
        Check.due("blanks and a sign", x.say(), 0);
        Check.due("room again", x.feed(' ', 1), 1);
    }

    private static void town() {
        SidelessTown x = Check.withTown(TWO);
        Check.due("height", x.corner(0, 0), 5);
        Check.due("blanks where they may be",
            Check.town(x, "\n corner99 9well;\n\ncorner 007 0 ; street 1 0\n; "), 2);
        Check.due("height 99", x.corner(0, 0), 99);
        Check.due("well", x.corner(0, 2), 1);
        Check.due("height 007", x.corner(1, 0), 7);
        Check.due("it stands in place of the one before", x.corner(0, 1), 9);
        Check.due("the saying stays", Check.say(x, "up;"), 1);
        Check.town(x, TWO);
        Check.due("the saying stayed", x.count(4), 1);
    }

    private static void townFault(String text, int place, int number) {
        SidelessTown x = Check.withTown(TWO);
        Check.due("town " + text, Check.town(x, text), -1000100 - place);
        Check.due("fault of " + text, x.fault(), number);
        Check.due("bytes behind " + text, x.count(5), 0);
        Check.due("the town stays behind " + text, x.corner(1, 0), 9);
        Check.due("corners stay behind " + text, x.count(1), 2);
    }

    private static void townsFaults() {
        townFault("", 0, 1);
        townFault("  ", 2, 1);
        townFault("corner", 6, 1);
        townFault("corner 1 ", 9, 1);
        townFault("street 0 1;", 0, 1);
        townFault("Corner 1 1;", 0, 1);
        townFault("corners 1 1;", 0, 1);
        townFault("corner 100 1;", 7, 2);
        townFault("corner 1 10;", 9, 2);
        townFault("corner 0001 1;", 7, 1);
        townFault("corner 1 00000;", 9, 1);
        townFault("corner 1 1 wells;", 11, 1);
        townFault("corner 1 1 well well;", 16, 1);
        townFault("corner well 1;", 7, 1);
        townFault("corner 1 1 street", 11, 1);
        townFault("corner 1 1;", 11, 1);
        townFault("corner 1 1;street 0 0;", 11, 1);
        townFault("corner 1 1;corner 1 1;", 22, 1);
        townFault("corner 1 1;corner 1 1; ", 23, 1);
        townFault("corner 1 1;corner 1 1;up;", 22, 1);
        townFault("corner 1 1;corner 1 1;street 0 0;", 31, 2);
        townFault("corner 1 1;corner 1 1;street 2 0;", 29, 2);
        townFault("corner 1 1;corner 1 1;street 0 2;", 31, 2);
        townFault("corner 1 1;corner 1 1;street 0;", 30, 1);
        townFault("corner 1 1;corner 1 1;street 0 1", 32, 1);
        townFault("corner 1 1;corner 1 1;street 1111 1;", 29, 1);
        townFault(TWO + ";", 33, 1);
        townFault(TWO + "corner 1 1;", 33, 1);
        townFault(TWO + "street 0 1;", 42, 2);
        townFault(TWO + "street 1 0;", 42, 2);
        townFault(TWO + "street 1 0", 42, 2);
        townFault(TWO + "\u0000", 33, 1);
        townFault(TWO + "\r", 33, 1);
    }

    private static String corners(int n) {
        return "corner 1 1;".repeat(n);
    }

    private static void roomInTowns() {
        SidelessTown x = new SidelessTown();
        Check.due("eight corners", Check.town(x, corners(8) + "street 7 0;"), 8);
        townFault(corners(9) + "street 0 1;", 88, 3);
        townFault(corners(8) + "corner 100", 88, 3);
        String star = "street 0 1;street 0 2;street 0 3;street 0 4;street 0 5;street 0 6;";
        Check.due("six streets at a corner", Check.town(x, corners(8) + star), 8);
        townFault(corners(8) + star + "street 0 7;", 88 + 66 + 7, 3);
        townFault(corners(8) + star + "street 0 1;", 88 + 66 + 7, 3);
        townFault(corners(8) + star + "street 7 0;", 88 + 66 + 9, 3);
        townFault(corners(8) + star + "street 1 0;", 88 + 66 + 9, 2);
        townFault(corners(8) + star + "street 1 1;", 88 + 66 + 9, 2);
        townFault(corners(8) + star + "street 0", 88 + 66 + 7, 3);
        String more = "street 1 2;street 1 3;street 1 4;street 2 3;street 2 4;street 3 4;";
        Check.due("twelve streets", Check.town(x, corners(7) + star + more), 7);
        Check.due("they are counted", x.count(2), 12);
        townFault(corners(7) + star + more + "street 5 6;", 77 + 132, 3);
        townFault(corners(7) + star + more + "corner 5 6;", 77 + 132, 1);
        townFault(corners(7) + star + more + "streets", 77 + 132, 1);
    }

    private static void say() {
        SidelessTown x = new SidelessTown();
        Check.due("all words", Check.say(x, "up down mark 0 on back hand other take mark9;"), 9);
        int[] want = {0, 1, 20, 3, 4, 5, 6, 7, 29, SidelessTown.NONE};
        for (int k = 0; k < want.length; k++) {
            Check.due("word(" + k + ")", x.word(k), want[k]);
        }
        Check.due("no words", Check.say(x, "\n;\n"), 0);
        Check.due("it stands in place of the one before", x.word(0), SidelessTown.NONE);
        Check.due("12 words", Check.say(x, "up ".repeat(12) + ";"), 12);
    }

    private static void sayingFault(String text, int place, int number) {
        SidelessTown x = new SidelessTown();
        Check.say(x, "take;");
        Check.due("saying " + text, Check.say(x, text), -1000100 - place);
        Check.due("fault of " + text, x.fault(), number);
        Check.due("bytes behind " + text, x.count(5), 0);
        Check.due("the saying stays behind " + text, x.word(0), 7);
    }

    private static void sayingsFaults() {
        sayingFault("", 0, 1);
        sayingFault("up", 2, 1);
        sayingFault("up up \n", 7, 1);
        sayingFault("upup;", 0, 1);
        sayingFault("up upz;", 3, 1);
        sayingFault("up upa;", 3, 1);
        sayingFault("up`;", 2, 1);
        sayingFault("up{;", 2, 1);
        sayingFault("mark 1:;", 6, 1);
        sayingFault("mark /1;", 5, 1);
        sayingFault("u p;", 0, 1);
        sayingFault("up well;", 3, 1);
        sayingFault("up corner;", 3, 1);
        sayingFault("up 1;", 3, 1);
        sayingFault("mark;", 4, 1);
        sayingFault("mark up;", 5, 1);
        sayingFault("mark 10;", 5, 2);
        sayingFault("mark 999;", 5, 2);
        sayingFault("mark 0000;", 5, 1);
        sayingFault("mark 1 2;", 7, 1);
        sayingFault("up;;", 3, 1);
        sayingFault("up;up", 3, 1);
        sayingFault("up,down;", 2, 1);
        sayingFault("up ".repeat(12) + "up;", 36, 3);
        sayingFault("up ".repeat(12) + "mark 99;", 36, 3);
        sayingFault("up ".repeat(12) + "well;", 36, 1);
        sayingFault("up ".repeat(12) + "1;", 36, 1);
        sayingFault("up ".repeat(12), 36, 1);
    }

    private static void words() {
        SidelessTown x = new SidelessTown();
        int[] items = {0, 1, 3, 4, 5, 6, 7, 20, 29, 2, 8, 19, 30, -1};
        x.row(0, 0, 20);
        for (int i = 0; i < items.length; i++) {
            x.set(0, i, items[i]);
        }
        Check.due("words(0, 0, 9)", x.words(0, 0, 9), 9);
        for (int k = 0; k < 9; k++) {
            Check.due("word(" + k + ")", x.word(k), items[k]);
        }
        for (int i = 9; i < items.length; i++) {
            Check.due("no word " + items[i], x.words(0, i, 1), BAD);
        }
        Check.due("no word among others", x.words(0, 5, 5), BAD);
        Check.due("the saying stays", x.count(4), 9);
        Check.due("words(0, 20, 0)", x.words(0, 20, 0), 0);
        Check.due("no words then", x.count(4), 0);
        Check.due("12 words", x.row(1, 2, 40) - x.words(1, 28, 12), 28);
        Check.due("13 words", x.words(1, 0, 13), BAD);
        Check.due("-1 words", x.words(1, 0, -1), BAD);
        Check.due("beyond the end", x.words(1, 30, 11), PLACE);
        Check.due("from -1 on", x.words(1, -1, 1), PLACE);
        Check.due("from 41 on", x.words(1, 41, 0), PLACE);
        Check.due("from the most on", x.words(1, Integer.MAX_VALUE, 12), PLACE);
        Check.due("PLACE goes ahead of an item", x.words(0, 9, 12), PLACE);
        Check.due("a missing row", x.words(2, -1, 1), NULL);
        Check.due("BAD goes ahead of it", x.words(2, 0, 13), BAD);
        Check.due("no such row", x.words(8, 0, 1), BAD);
        Check.due("12 words stay", x.count(4), 12);
        x.set(1, 0, 256 + 7);
        Check.due("an int that is no byte", x.words(1, 0, 1), BAD);
    }

    private static void fault() {
        SidelessTown x = new SidelessTown();
        Check.due("none yet", x.fault(), 0);
        Check.town(x, "corner 100 1;");
        Check.due("2", x.fault(), 2);
        Check.town(x, TWO);
        Check.due("what is read without leaves it", x.fault(), 2);
        Check.say(x, "up ".repeat(13) + ";");
        Check.due("3, of a saying", x.fault(), 3);
        x.town();
        Check.due("1", x.fault(), 1);
        x.image(0);
        x.restore(0);
        x.words(0, 0, 1);
        Check.due("other calls leave it", x.fault(), 1);
    }
}
