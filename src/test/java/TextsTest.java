import java.util.ArrayList;
import java.util.List;

/** Promises 6 to 10: the tape, towns and sayings read from it, words from a row, the latest fault. */
final class TextsTest {
    private static final int BAD = -1000001, FULL = -1000003, NULL = -1000011, PLACE = -1000012;
    private static final String TWO = "corner 5 1;corner 9 2;street 0 1;";

    public static void main(String[] args) {
        feed();
        feedOfEachLength();
        tapeOfMostBytes();
        tapeOfMostTokens();
        town();
        townsFaults();
        firstFaults();
        leastFaults();
        namesMisspelt();
        allBytes();
        beginnings();
        roomInTowns();
        say();
        sayingsFaults();
        words();
        wordsLeaveRows();
        whatStays();
        fault();
        Check.end();
    }

    private static void feed() {
        SidelessTown x = new SidelessTown();
        Check.due("feed 1", x.feed(';', 1), 1);
        Check.due("feed 8", x.feed(0x2020202020202020L, 8), 9);
        Check.due("the highest bytes are left", x.feed(0x7878787878782020L, 2), 11);
        Check.due("feed 0", x.feed(0, 0), BAD);
        Check.due("feed 9", x.feed(0, 9), BAD);
        Check.due("feed -1", x.feed(0, -1), BAD);
        Check.due("bytes on the tape", x.count(5), 11);
        Check.due("they are a saying", x.say(), 0);
        Check.due("bytes behind it", x.count(5), 0);
        x.feed(0x75703bL, 3);
        Check.due("the highest first: up;", x.say(), 1);
        x.feed(0xffL, 1);
        Check.due("a byte above 127", x.say(), -1000100);
    }

    /** The highest of the lowest n bytes first; what is above them does not count. */
    private static void feedOfEachLength() {
        String text = "mark 37 ";
        for (int n = 1; n <= 8; n++) {
            SidelessTown x = new SidelessTown();
            long w = -1;
            for (int i = 0; i < n; i++) {
                w = w << 8 | text.charAt(i);
            }
            Check.due("feed of " + n, x.feed(w, n), n);
            Check.due("bytes behind a feed of " + n, x.count(5), n);
            Check.due("feed of the sign behind " + n, x.feed(-256 + ';', 1), n + 1);
            int[] want = {-1000100, -1000100, -1000100, -1000104, -1000105, 1, -1000105, -1000105};
            Check.due("say() of " + n + " bytes and a sign", x.say(), want[n - 1]);
        }
    }

    private static void tapeOfMostTokens() {
        SidelessTown x = new SidelessTown();
        Check.due("400 signs", Check.say(x, ";".repeat(400)), -1000101);
        Check.due("400 signs are no town", Check.town(x, ";".repeat(400)), -1000100);
        Check.due("400 letters", Check.say(x, "u".repeat(400)), -1000100);
        Check.due("400 figures", Check.say(x, "1".repeat(400)), -1000100);
        Check.due("400 figures behind a name", Check.say(x, "mark" + "1".repeat(396)), -1000104);
        Check.due("400 blanks", Check.say(x, "\n".repeat(400)), -1000500);
        Check.due("its fault", x.fault(), 1);
        Check.due("a sign behind 399 blanks", Check.say(x, " ".repeat(399) + ";"), 0);
        Check.due("a town behind blanks", Check.town(x, " ".repeat(400 - TWO.length()) + TWO), 2);
        Check.due("a town ahead of blanks", Check.town(x, TWO + "\n".repeat(400 - TWO.length())), 2);
        Check.due("an end behind 400 bytes", Check.town(x, "corner 1 1;corner 1 1;" + " ".repeat(378)), -1000500);
    }

    private static void tapeOfMostBytes() {
        SidelessTown x = new SidelessTown();
        for (int i = 0; i < 49; i++) {
            x.feed(0x2020202020202020L, 8);
        }
        Check.due("392 bytes", x.count(5), 392);
        Check.due("399 bytes", x.feed(0x20202020202020L, 7), 399);
        Check.due("401 bytes", x.feed(0x2020L, 2), FULL);
        Check.due("401 bytes: none comes", x.count(5), 399);
        Check.due("400 bytes", x.feed(';', 1), 400);
        Check.due("one more", x.feed(';', 1), FULL);
        Check.due("BAD goes first", x.feed(';', 9), BAD);
        Check.due("blanks and a sign", x.say(), 0);
        Check.due("room again", x.feed(' ', 1), 1);
    }

    private static void town() {
        SidelessTown x = Check.withTown(TWO);
        Check.due("height", x.corner(0, 0), 5);
        Check.due("blanks where they may be",
            Check.town(x, "\n corner99 9well;\n\ncorner 007 0 ; street 1 0\n; "), 2);
        Check.due("height 99", x.corner(0, 0), 99);
        Check.due("well", x.corner(0, 2), 1);
        Check.due("height 007", x.corner(1, 0), 7);
        Check.due("it stands in place of the one before", x.corner(0, 1), 9);
        Check.due("the saying stays", Check.say(x, "up;"), 1);
        Check.town(x, TWO);
        Check.due("the saying stayed", x.count(4), 1);
    }

    private static void townFault(String text, int place, int number) {
        SidelessTown x = Check.withTown(TWO);
        Check.due("town " + text, Check.town(x, text), -1000100 - place);
        Check.due("fault of " + text, x.fault(), number);
        Check.due("bytes behind " + text, x.count(5), 0);
        Check.due("the town stays behind " + text, x.corner(1, 0), 9);
        Check.due("corners stay behind " + text, x.count(1), 2);
    }

    private static void townsFaults() {
        townFault("", 0, 1);
        townFault("  ", 2, 1);
        townFault("corner", 6, 1);
        townFault("corner 1 ", 9, 1);
        townFault("street 0 1;", 0, 1);
        townFault("Corner 1 1;", 0, 1);
        townFault("corners 1 1;", 0, 1);
        townFault("corner 100 1;", 7, 2);
        townFault("corner 1 10;", 9, 2);
        townFault("corner 0001 1;", 7, 1);
        townFault("corner 1 00000;", 9, 1);
        townFault("corner 1 1 wells;", 11, 1);
        townFault("corner 1 1 well well;", 16, 1);
        townFault("corner well 1;", 7, 1);
        townFault("corner 1 1 street", 11, 1);
        townFault("corner 1 1;", 11, 1);
        townFault("corner 1 1;street 0 0;", 11, 1);
        townFault("corner 1 1;corner 1 1;", 22, 1);
        townFault("corner 1 1;corner 1 1; ", 23, 1);
        townFault("corner 1 1;corner 1 1;up;", 22, 1);
        townFault("corner 1 1;corner 1 1;street 0 0;", 31, 2);
        townFault("corner 1 1;corner 1 1;street 2 0;", 29, 2);
        townFault("corner 1 1;corner 1 1;street 0 2;", 31, 2);
        townFault("corner 1 1;corner 1 1;street 0;", 30, 1);
        townFault("corner 1 1;corner 1 1;street 0 1", 32, 1);
        townFault("corner 1 1;corner 1 1;street 1111 1;", 29, 1);
        townFault(TWO + ";", 33, 1);
        townFault(TWO + "corner 1 1;", 33, 1);
        townFault(TWO + "street 0 1;", 42, 2);
        townFault(TWO + "street 1 0;", 42, 2);
        townFault(TWO + "street 1 0", 42, 2);
        townFault(TWO + "\u0000", 33, 1);
        townFault(TWO + "\r", 33, 1);
    }

    /** Of two tokens that have a fault the first counts, whatever the faults are. */
    private static void firstFaults() {
        townFault("corner 100 0001;", 7, 2);
        townFault("corner 0001 100;", 7, 1);
        townFault("corner 1 10 up", 9, 2);
        townFault("corner 1 1 up 100", 11, 1);
        townFault("corner 1 1;corner 1 1;street 5 5;street", 29, 2);
        townFault("corner 1 1;corner 1 1;street 1 1#", 31, 2);
        townFault("corner 1 1;corner 1 1;street 2 1111", 29, 2);
        townFault("corner 1 1;corner 1 1;street 1111 2", 29, 1);
        townFault("corner 1 1;street 0 0;corner 100 1;", 11, 1);
        townFault("# corner 100 1;", 0, 1);
        sayingFault("up mark 10 #;", 8, 2);
        sayingFault("up # mark 10;", 3, 1);
        sayingFault("up ".repeat(11) + "mark 10 up up;", 38, 2);
    }

    /** A number that cannot stand where it stands has fault 1, and no other; so has a street's corner, ahead of 3. */
    private static void leastFaults() {
        townFault("corner 1 1 100;", 11, 1);
        townFault("corner 1 1;corner 1 1;street 0 1 0;", 33, 1);
        townFault("corner 1 1;corner 1 1;street 0 1 999;", 33, 1);
        townFault("corner 1 1;corner 1 1;9 1;", 22, 1);
        townFault("999", 0, 1);
        townFault("corner 1 1;corner 1 1;street 999 0;", 29, 2);
        townFault("corner 1 1;corner 1 1;street 0 999;", 31, 2);
        townFault("corner 1 1;corner 1 1;street 0 1000;", 31, 1);
        townFault("corner 12ab 1;", 9, 1);
        townFault("corner 1 1well 1;", 15, 1);
        townFault("corner 11;", 9, 1);
        townFault("corner 99 9;corner 100 9;", 19, 2);
        townFault("corner 999 1;", 7, 2);
        townFault("corner 1 999;", 9, 2);
        townFault("corner 1 -1;", 9, 1);
        townFault(corners(8) + "street 0 1;corner 1 1;", 99, 1);
        townFault(corners(8) + "street 8 0;", 95, 2);
        townFault(corners(8) + "street 0 8;", 97, 2);
        townFault(corners(8) + "street 7 7;", 97, 2);
        townFault(corners(8) + ";", 88, 1);
        townFault(corners(8), 88, 1);
        sayingFault("1000", 0, 1);
        sayingFault("mark 1000", 5, 1);
        sayingFault("mark 9 999;", 7, 1);
        sayingFault("mark mark;", 5, 1);
        sayingFault("street 0 1;", 0, 1);
    }

    /** Each letter of each name counts, and there are no more of them. */
    private static void namesMisspelt() {
        for (String name : new String[] {"corner", "street", "well"}) {
            for (String other : misspelt(name)) {
                spoilt(" corner 1 1 well ; corner 2 2 ; street 0 1 ; ", name, other, TextsTest::townFault);
            }
        }
        for (String name : new String[] {"up", "down", "mark", "on", "back", "hand", "other", "take"}) {
            for (String other : misspelt(name)) {
                spoilt(" take mark 1 up down on back hand other ; ", name, other, TextsTest::sayingFault);
            }
        }
    }

    /** With one letter lost, doubled, made a capital or another. */
    private static List<String> misspelt(String name) {
        List<String> all = new ArrayList<>();
        for (int i = 0; i < name.length(); i++) {
            String head = name.substring(0, i), tail = name.substring(i + 1);
            char letter = name.charAt(i);
            all.add(head + tail);
            all.add(head + letter + letter + tail);
            all.add(head + (char) (letter - 32) + tail);
            all.add(head + (char) (letter + 1) + tail);
            all.add(head + (char) (letter - 1) + tail);
        }
        return all;
    }

    private interface Faulty {
        void at(String text, int place, int number);
    }

    private static void spoilt(String text, String name, String other, Faulty faulty) {
        int at = text.indexOf(" " + name + " ") + 1;
        faulty.at(text.substring(0, at) + other + text.substring(at + name.length()), at, 1);
    }

    /** Of all bytes 32 and 10 alone may lie between tokens; behind a name letters go on with it, figures do not. */
    private static void allBytes() {
        for (int b = 0; b < 256; b++) {
            char c = (char) b;
            if (b != 32 && b != 10) {
                townFault(TWO + c, 33, 1);
                townFault(c + TWO, 0, 1);
                boolean letter = b >= 'a' && b <= 'z';
                sayingFault("up down" + c + ";", letter ? 3 : b == ';' ? 8 : 7, 1);
                boolean figure = b >= '0' && b <= '9';
                sayingFault("mark 9" + c + ";", figure ? 5 : b == ';' ? 7 : 6, figure ? 2 : 1);
            } else {
                SidelessTown x = new SidelessTown();
                Check.due("byte " + b + " behind", Check.town(x, TWO + c), 2);
                Check.due("byte " + b + " ahead", Check.town(x, c + TWO), 2);
                Check.due("byte " + b + " between", Check.say(x, "up" + c + "down" + c + c + ";"), 2);
            }
        }
    }

    /** A text that ends too soon: where its last token is whole, at its end, else where the token begins. */
    private static void beginnings() {
        String town = "corner 5 1 well;corner 9 2;street 0 1;";
        for (int n = 0; n < town.length(); n++) {
            boolean inName = n > 0 && Character.isLetter(town.charAt(n - 1)) && Character.isLetter(town.charAt(n));
            int begin = n;
            while (inName && begin > 0 && Character.isLetter(town.charAt(begin - 1))) {
                begin--;
            }
            townFault(town.substring(0, n), begin, 1);
        }
        for (int n = 0; n < 7; n++) {
            sayingFault("mark 37".substring(0, n), n == 0 || n == 4 || n == 5 || n == 6 ? n : 0, 1);
        }
    }

    private static String corners(int n) {
        return "corner 1 1;".repeat(n);
    }

    private static void roomInTowns() {
        SidelessTown x = new SidelessTown();
        Check.due("eight corners", Check.town(x, corners(8) + "street 7 0;"), 8);
        townFault(corners(9) + "street 0 1;", 88, 3);
        townFault(corners(8) + "corner 100", 88, 3);
        String star = "street 0 1;street 0 2;street 0 3;street 0 4;street 0 5;street 0 6;";
        Check.due("six streets at a corner", Check.town(x, corners(8) + star), 8);
        townFault(corners(8) + star + "street 0 7;", 88 + 66 + 7, 3);
        townFault(corners(8) + star + "street 0 1;", 88 + 66 + 7, 3);
        townFault(corners(8) + star + "street 7 0;", 88 + 66 + 9, 3);
        townFault(corners(8) + star + "street 1 0;", 88 + 66 + 9, 2);
        townFault(corners(8) + star + "street 1 1;", 88 + 66 + 9, 2);
        townFault(corners(8) + star + "street 0", 88 + 66 + 7, 3);
        String more = "street 1 2;street 1 3;street 1 4;street 2 3;street 2 4;street 3 4;";
        Check.due("twelve streets", Check.town(x, corners(7) + star + more), 7);
        Check.due("they are counted", x.count(2), 12);
        townFault(corners(7) + star + more + "street 5 6;", 77 + 132, 3);
        townFault(corners(7) + star + more + "corner 5 6;", 77 + 132, 1);
        townFault(corners(7) + star + more + "streets", 77 + 132, 1);
    }

    private static void say() {
        SidelessTown x = new SidelessTown();
        Check.due("all words", Check.say(x, "up down mark 0 on back hand other take mark9;"), 9);
        int[] want = {0, 1, 20, 3, 4, 5, 6, 7, 29, SidelessTown.NONE};
        for (int k = 0; k < want.length; k++) {
            Check.due("word(" + k + ")", x.word(k), want[k]);
        }
        Check.due("no words", Check.say(x, "\n;\n"), 0);
        Check.due("it stands in place of the one before", x.word(0), SidelessTown.NONE);
        Check.due("12 words", Check.say(x, "up ".repeat(12) + ";"), 12);
    }

    private static void sayingFault(String text, int place, int number) {
        SidelessTown x = new SidelessTown();
        Check.say(x, "take;");
        Check.due("saying " + text, Check.say(x, text), -1000100 - place);
        Check.due("fault of " + text, x.fault(), number);
        Check.due("bytes behind " + text, x.count(5), 0);
        Check.due("the saying stays behind " + text, x.word(0), 7);
    }

    private static void sayingsFaults() {
        sayingFault("", 0, 1);
        sayingFault("up", 2, 1);
        sayingFault("up up \n", 7, 1);
        sayingFault("upup;", 0, 1);
        sayingFault("up upz;", 3, 1);
        sayingFault("up upa;", 3, 1);
        sayingFault("up`;", 2, 1);
        sayingFault("up{;", 2, 1);
        sayingFault("mark 1:;", 6, 1);
        sayingFault("mark /1;", 5, 1);
        sayingFault("u p;", 0, 1);
        sayingFault("up well;", 3, 1);
        sayingFault("up corner;", 3, 1);
        sayingFault("up 1;", 3, 1);
        sayingFault("mark;", 4, 1);
        sayingFault("mark up;", 5, 1);
        sayingFault("mark 10;", 5, 2);
        sayingFault("mark 999;", 5, 2);
        sayingFault("mark 0000;", 5, 1);
        sayingFault("mark 1 2;", 7, 1);
        sayingFault("up;;", 3, 1);
        sayingFault("up;up", 3, 1);
        sayingFault("up,down;", 2, 1);
        sayingFault("up ".repeat(12) + "up;", 36, 3);
        sayingFault("up ".repeat(12) + "mark 99;", 36, 3);
        sayingFault("up ".repeat(12) + "well;", 36, 1);
        sayingFault("up ".repeat(12) + "1;", 36, 1);
        sayingFault("up ".repeat(12), 36, 1);
    }

    private static void words() {
        SidelessTown x = new SidelessTown();
        int[] items = {0, 1, 3, 4, 5, 6, 7, 20, 29, 2, 8, 19, 30, -1};
        x.row(0, 0, 20);
        for (int i = 0; i < items.length; i++) {
            x.set(0, i, items[i]);
        }
        Check.due("words(0, 0, 9)", x.words(0, 0, 9), 9);
        for (int k = 0; k < 9; k++) {
            Check.due("word(" + k + ")", x.word(k), items[k]);
        }
        for (int i = 9; i < items.length; i++) {
            Check.due("no word " + items[i], x.words(0, i, 1), BAD);
        }
        Check.due("no word among others", x.words(0, 5, 5), BAD);
        Check.due("the saying stays", x.count(4), 9);
        Check.due("words(0, 20, 0)", x.words(0, 20, 0), 0);
        Check.due("no words then", x.count(4), 0);
        Check.due("12 words", x.row(1, 2, 40) - x.words(1, 28, 12), 28);
        Check.due("13 words", x.words(1, 0, 13), BAD);
        Check.due("-1 words", x.words(1, 0, -1), BAD);
        Check.due("beyond the end", x.words(1, 30, 11), PLACE);
        Check.due("from -1 on", x.words(1, -1, 1), PLACE);
        Check.due("from 41 on", x.words(1, 41, 0), PLACE);
        Check.due("from the most on", x.words(1, Integer.MAX_VALUE, 12), PLACE);
        Check.due("PLACE goes ahead of an item", x.words(0, 9, 12), PLACE);
        Check.due("a missing row", x.words(2, -1, 1), NULL);
        Check.due("BAD goes ahead of it", x.words(2, 0, 13), BAD);
        Check.due("no such row", x.words(8, 0, 1), BAD);
        Check.due("12 words stay", x.count(4), 12);
        x.set(1, 0, 256 + 7);
        Check.due("an int that is no byte", x.words(1, 0, 1), BAD);
    }

    private static void wordsLeaveRows() {
        SidelessTown x = new SidelessTown();
        x.row(5, 1, 12);
        for (int i = 0; i < 12; i++) {
            x.set(5, i, i < 8 ? new int[] {0, 1, 20, 3, 4, 5, 6, 7}[i] : 17 + i);
        }
        Check.due("words(5, 0, 12)", x.words(5, 0, 12), 12);
        for (int k = 0; k < 12; k++) {
            Check.due("word(" + k + ")", x.word(k), k < 8 ? new int[] {0, 1, 20, 3, 4, 5, 6, 7}[k] : 17 + k);
        }
        x.set(5, 0, 1);
        Check.due("the saying does not follow the row", x.word(0), 0);
        x.drop(5);
        Check.due("nor go with it", x.count(4), 12);
        x.row(5, 0, 0);
        Check.due("words(5, 0, 0) of a row without items", x.words(5, 0, 0), 0);
        Check.due("no words then", x.count(4), 0);
        Check.due("words(5, 1, 0) beyond its end", x.words(5, 1, 0), PLACE);
        Check.due("words(5, 0, 1) beyond its end", x.words(5, 0, 1), PLACE);
        x.row(5, 2, 1);
        for (int item : new int[] {2, -1, 8, 9, 10, 18, 19, 30, 31, 256, 256 + 20, Integer.MAX_VALUE, Integer.MIN_VALUE}) {
            x.set(5, 0, item);
            Check.due("an item " + item, x.words(5, 0, 1), BAD);
        }
    }

    private static void whatStays() {
        SidelessTown x = Check.withTown(TWO);
        Check.say(x, "up mark 3;");
        x.row(0, 1, 7);
        x.image(0);
        Check.town(x, "corner 1 1;corner 1 1;corner 1 1;street 0 2;");
        Check.due("a town leaves the saying", x.word(1), 23);
        Check.due("a town leaves rows", x.set(0, 6, 9), 9);
        Check.say(x, ";");
        Check.due("a saying leaves the town", x.count(1), 3);
        Check.due("a saying leaves rows", x.count(0), 1);
        x.restore(0);
        Check.due("both leave images: the town", x.corner(1, 0), 9);
        Check.due("both leave images: the saying", x.word(1), 23);
        Check.due("fault() of none in all this", x.fault(), 0);
        Check.due("a text read empties the tape", x.count(5), 0);
    }

    private static void fault() {
        SidelessTown x = new SidelessTown();
        Check.due("none yet", x.fault(), 0);
        Check.town(x, "corner 100 1;");
        Check.due("2", x.fault(), 2);
        Check.town(x, TWO);
        Check.due("what is read without leaves it", x.fault(), 2);
        Check.say(x, "up ".repeat(13) + ";");
        Check.due("3, of a saying", x.fault(), 3);
        x.town();
        Check.due("1", x.fault(), 1);
        x.image(0);
        x.restore(0);
        x.words(0, 0, 1);
        Check.due("other calls leave it", x.fault(), 1);
    }
}
