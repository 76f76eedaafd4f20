/** Promises 16 to 20: corners alike, shortest and soonest ways, turns and images, ends. */
final class WaysTest {
    private static final int BAD = -1000001, STATE = -1000002, NONE = -1000000;

    public static void main(String[] args) {
        apart();
        apartByWhatFollows();
        apartByOneWord();
        shortest();
        shortestOfMost();
        shortestByBack();
        shortestWithHands();
        firstOfSeveral();
        soonest();
        turns();
        turnsOfCornersWithoutStreets();
        images();
        ordersOfAllParts();
        askedInTurn();
        ends();
        wrongNumbers();
        Check.end();
    }

    private static void classes(SidelessTown x, int... want) {
        int most = 0;
        for (int c = 0; c < want.length; c++) {
            Check.due("apart(" + c + ", 0)", x.apart(c, 0), want[c]);
            most = Math.max(most, want[c]);
        }
        Check.due("classes", x.apart(0, 1), most + 1);
    }

    private static void apart() {
        SidelessTown x = Check.withTown("corner 5 1;corner 5 1;corner 5 1 well;street 0 1;street 1 2;");
        // 0 and 2 are alike, wells or not; from 1 mark 1 fails.
        classes(x, 0, 1, 0);
        x.mark(2, 2);
        // From 0 mark 1 leads to 1, from 1 mark 1 and 2 lead somewhere.
        classes(x, 0, 1, 2);
        x.mark(2, 1);
        x.mark(1, 0);
        classes(x, 0, 1, 0);
        Check.town(x, "corner 5 1;corner 5 1;corner 5 1;street 0 1;street 1 2;street 2 0;");
        classes(x, 0, 0, 0);
        Check.town(x, "corner 5 1;corner 50 1;corner 99 1;corner 50 1;street 0 1;street 2 3;");
        // One up and one mark 1, or one down and one mark 1, by heights that do not matter else.
        classes(x, 0, 1, 1, 0);
        Check.town(x, "corner 7 3;corner 7 2;corner 7 1;corner 7 2;street 0 1;");
        classes(x, 0, 1, 2, 3);
    }

    private static void apartByWhatFollows() {
        StringBuilder path = new StringBuilder();
        for (int c = 0; c < 8; c++) {
            path.append("corner ").append(c).append(" 0;");
        }
        for (int c = 0; c < 7; c++) {
            path.append("street ").append(c).append(" ").append(c + 1).append(";");
        }
        // Up a path each corner has another number of ups ahead.
        classes(Check.withTown(path.toString()), 0, 1, 2, 3, 4, 5, 6, 7);
        String twoLines = "corner 1 0;corner 2 0;corner 3 0;corner 11 0;corner 22 0;corner 33 0;"
            + "street 0 1;street 1 2;street 3 4;street 4 5;";
        SidelessTown x = Check.withTown(twoLines);
        classes(x, 0, 1, 2, 0, 1, 2);
        x.mark(5, 9);
        classes(x, 0, 1, 2, 3, 4, 5);
    }

    /** 0 and 1 are told apart by a single word; what else is asked of them fails from both, or leads to alike ones. */
    private static void apartByOneWord() {
        String pairs = "street 0 2;street 0 3;street 1 4;street 1 5;";
        SidelessTown x = Check.withTown("corner 5 1;corner 5 1;corner 9 6;corner 8 6;corner 9 6;corner 9 6;" + pairs);
        classes(x, 0, 1, 2, 2, 3, 3);
        Check.town(x, "corner 5 1;corner 5 1;corner 1 6;corner 2 6;corner 1 6;corner 1 6;" + pairs);
        classes(x, 0, 1, 2, 2, 3, 3);
        Check.town(x, "corner 5 1;corner 5 1;corner 9 6;corner 9 6;corner 9 6;corner 9 6;" + pairs);
        classes(x, 0, 0, 1, 1, 1, 1);
        Check.town(x, "corner 5 1;corner 5 1;corner 5 0;corner 5 0;street 0 2;");
        for (int m = 0; m <= 9; m++) {
            x.mark(2, m);
            x.mark(3, m);
            // From 0 mark m leads to 2, from 1 to none.
            classes(x, m == 1 ? new int[] {0, 1, 0, 1} : new int[] {0, 1, 2, 3});
        }
        Check.town(x, "corner 5 1;corner 5 1;corner 5 2;corner 5 3;street 0 2;street 1 3;");
        // By mark 2 and by mark 3.
        classes(x, 0, 1, 2, 3);
        x.mark(3, 2);
        classes(x, 0, 0, 1, 1);
        Check.town(x, "corner 5 1;corner 50 1 well;corner 99 1;street 0 1;");
        // Heights and wells do not matter but by up and down.
        classes(x, 0, 1, 2);
        Check.town(x, "corner 5 1;corner 50 1 well;corner 99 1;corner 1 1;street 0 1;");
        classes(x, 0, 1, 2, 2);
    }

    private static void way(SidelessTown x, int a, int b, int hands, int... words) {
        String call = "shortest(" + a + ", " + b + ", " + hands + ", ";
        Check.due(call + "-1)", x.shortest(a, b, hands, -1), words.length);
        for (int k = 0; k < words.length; k++) {
            Check.due(call + k + ")", x.shortest(a, b, hands, k), words[k]);
        }
        Check.due(call + words.length + ")", x.shortest(a, b, hands, words.length), NONE);
    }

    private static void noWay(SidelessTown x, int a, int b, int hands) {
        for (int k = -1; k <= 1; k++) {
            Check.due("no shortest(" + a + ", " + b + ", " + hands + ", " + k + ")", x.shortest(a, b, hands, k), NONE);
        }
    }

    private static void shortest() {
        SidelessTown x = Check.withTown("corner 1 1;corner 2 2;corner 3 3;corner 3 3;corner 0 4;corner 9 9;"
            + "street 0 1;street 1 2;street 1 3;street 4 1;");
        way(x, 0, 0, 0);
        way(x, 5, 5, 1);
        way(x, 0, 1, 0, 0);
        way(x, 2, 1, 0, 1);
        way(x, 4, 1, 0, 0);
        way(x, 1, 4, 0, 1);
        way(x, 2, 4, 0, 1, 1);
        way(x, 2, 0, 0, 1, 21);
        // 2 and 3 are of one mark and height; about 1 lie 0 2 3 4: halfway round from 0 is 3, from 4 is 2.
        way(x, 0, 3, 0, 0, 3);
        way(x, 4, 2, 0, 0, 3);
        way(x, 0, 2, 0, 0, 1, 0, 3);
        noWay(x, 0, 5, 0);
        noWay(x, 5, 0, 1);
    }

    /** Up and down a path of eight corners all marks alike: by whatever corner he came, he is not taken for another. */
    private static void shortestOfMost() {
        StringBuilder path = new StringBuilder();
        for (int c = 0; c < 8; c++) {
            path.append("corner ").append(c).append(" 0;");
        }
        for (int c = 0; c < 7; c++) {
            path.append("street ").append(c).append(" ").append(c + 1).append(";");
        }
        SidelessTown x = Check.withTown(path.toString());
        for (int a = 0; a < 8; a++) {
            for (int b = 0; b < 8; b++) {
                int[] words = new int[Math.abs(a - b)];
                java.util.Arrays.fill(words, a < b ? 0 : 1);
                way(x, a, b, 0, words);
                way(x, a, b, 1, words);
            }
        }
        Check.due("k at its most", x.shortest(0, 7, 0, Integer.MAX_VALUE), NONE);
        // Halfway round 0 from 6 is 3; from there a hand that is taken leads to both sides, as on goes ahead of take.
        Check.town(x, "corner 9 0 well;corner 5 1;corner 5 1;corner 5 1;corner 5 1;corner 5 1;corner 1 3;"
            + "street 0 6;street 0 1;street 0 2;street 0 3;street 0 4;street 0 5;");
        way(x, 6, 3, 1, 0, 3);
        way(x, 6, 2, 1, 0, 3, 0, 7, 6);
        way(x, 6, 4, 1, 0, 3, 0, 7, 5);
        way(x, 6, 3, 0, 0, 3);
        noWay(x, 6, 2, 0);
        // Where he took the hand does not matter, only that he has it: at a well behind him.
        Check.town(x, "corner 5 0;corner 6 1 well;corner 5 2;corner 5 2;corner 5 2;"
            + "street 0 1;street 0 2;street 0 3;street 0 4;");
        way(x, 0, 2, 1, 0, 7, 1, 5);
        way(x, 0, 4, 1, 0, 7, 1, 6);
        way(x, 0, 3, 1, 0, 1, 3);
        way(x, 1, 2, 1, 7, 1, 5);
    }

    /** From 1 back alone leads to 0: 5 is like it. From 0, by which he came again, 3 lies halfway round. */
    private static void shortestByBack() {
        SidelessTown x = Check.withTown("corner 5 0;corner 5 1;corner 5 2;corner 5 2;corner 5 2;corner 5 0;"
            + "street 0 1;street 0 2;street 0 3;street 0 4;street 1 5;");
        way(x, 0, 3, 0, 21, 4, 3);
        way(x, 0, 3, 1, 21, 4, 3);
        noWay(x, 0, 2, 0);
        way(x, 0, 5, 0, 21, 3);
        way(x, 2, 4, 0, 20, 3);
        noWay(x, 1, 0, 1);
    }

    private static void shortestWithHands() {
        // About the well 0 lie 1 2 3, all three alike.
        SidelessTown x = Check.withTown("corner 5 0 well;corner 5 1;corner 5 1;corner 5 1;"
            + "street 0 1;street 0 2;street 0 3;");
        noWay(x, 1, 2, 0);
        way(x, 1, 2, 1, 20, 7, 5);
        way(x, 1, 3, 1, 20, 7, 6);
        noWay(x, 0, 2, 0);
        noWay(x, 0, 2, 1);
        // A hand that is taken ahead goes on: hand takes 1 to 2 to 3 as well.
        Check.town(x, "corner 9 0 well;corner 5 1;corner 5 1;corner 5 1;corner 5 1;corner 1 3;"
            + "street 0 1;street 0 2;street 0 3;street 0 4;street 0 5;");
        way(x, 5, 1, 1, 0, 7, 5);
        way(x, 5, 4, 1, 0, 7, 6);
        way(x, 5, 2, 1, 0, 7, 5, 0, 5);
        way(x, 5, 3, 1, 0, 7, 6, 0, 6);
        noWay(x, 5, 1, 0);
    }

    private static void firstOfSeveral() {
        SidelessTown x = Check.withTown("corner 1 0;corner 9 1;street 0 1;");
        way(x, 0, 1, 1, 0);
        way(x, 1, 0, 1, 1);
        // Each mark, where no slope leads.
        Check.town(x, "corner 5 0;corner 5 1;corner 9 9;corner 1 9;street 0 1;street 0 2;street 0 3;");
        for (int m = 0; m < 9; m++) {
            x.mark(1, m);
            way(x, 0, 1, m % 2, 20 + m);
        }
        x.mark(1, 9);
        x.mark(2, 8);
        x.mark(3, 8);
        way(x, 0, 1, 0, 29);
        // Two ways of two words to 3: up (1) and down, mark 2 and down: the first by words.
        Check.town(x, "corner 5 0;corner 9 1;corner 8 2;corner 2 3;street 0 1;street 0 2;street 1 3;street 2 3;");
        way(x, 0, 3, 0, 0, 1);
        way(x, 3, 0, 0, 0, 20);
        // By marks alone: the least mark goes first.
        Check.town(x, "corner 5 0;corner 5 7;corner 5 3;corner 5 9;street 0 1;street 0 2;street 1 3;street 2 3;");
        way(x, 0, 3, 0, 23, 29);
        way(x, 3, 0, 1, 23, 20);
        // mark 9 ahead of on: halfway round 1 from 0 is 3, and 3 alone has mark 9.
        Check.town(x, "corner 5 0;corner 5 7;corner 5 3;corner 5 9;corner 5 3;"
            + "street 0 1;street 1 2;street 1 3;street 1 4;");
        way(x, 0, 3, 0, 27, 29);
        x.mark(3, 3);
        way(x, 0, 3, 0, 27, 3);
    }

    private static void soonest() {
        SidelessTown x = Check.withTown("corner 1 1;corner 2 2 well;corner 3 3;corner 4 4 well;corner 9 9;"
            + "street 0 1;street 1 2;street 2 3;");
        int[][] want = {{1, 1}, {0, 1}, {1, 1}, {0, 3}, {NONE, NONE}};
        for (int c = 0; c < 5; c++) {
            Check.due("soonest(" + c + ", 0)", x.soonest(c, 0), want[c][0]);
            Check.due("soonest(" + c + ", 1)", x.soonest(c, 1), want[c][1]);
        }
        // The nearer goes ahead of the lesser, the lesser ahead of that to which up leads.
        Check.town(x, "corner 5 0;corner 5 1 well;corner 5 2;corner 5 3 well;corner 9 4 well;"
            + "street 0 2;street 2 1;street 0 3;street 0 4;");
        Check.due("of two as near the lesser", x.soonest(0, 1), 3);
        Check.due("both are at one word", x.soonest(0, 0), 1);
        Check.due("from 2", x.soonest(2, 1), 1);
        // A hand does not help: from 1 the only other well is behind two that are alike.
        Check.town(x, "corner 5 0;corner 5 1;corner 5 1 well;corner 5 2;street 0 1;street 0 2;street 0 3;");
        Check.due("not without telling two apart", x.soonest(3, 0), NONE);
        Check.due("no corner then", x.soonest(3, 1), NONE);
    }

    private static void layings(SidelessTown x, int what, int corners, int[]... want) {
        Check.due("laid(" + what + ", -1, 0)", x.laid(what, -1, corners - 1), want.length);
        for (int i = 0; i < want.length; i++) {
            for (int c = 0; c < corners; c++) {
                Check.due("laid(" + what + ", " + i + ", " + c + ")", x.laid(what, i, c), want[i][c]);
            }
        }
        Check.due("laid behind all", x.laid(what, want.length, 0), NONE);
        Check.due("laid far behind all", x.laid(what, Integer.MAX_VALUE, 0), NONE);
    }

    private static final String WHEEL = "corner 5 0;corner 5 1;corner 5 1;corner 5 1;street 0 1;street 0 2;street 0 3;";

    private static void turns() {
        SidelessTown x = Check.withTown(WHEEL);
        layings(x, 0, 4, new int[] {0, 1, 2, 3}, new int[] {0, 2, 3, 1}, new int[] {0, 3, 1, 2});
        x.mark(2, 9);
        layings(x, 0, 4, new int[] {0, 1, 2, 3});
        Check.town(x, "corner 1 1;corner 1 1;corner 1 1;street 0 1;street 1 2;street 0 2;");
        layings(x, 0, 3, new int[] {0, 1, 2}, new int[] {0, 2, 1}, new int[] {1, 0, 2}, new int[] {1, 2, 0},
            new int[] {2, 0, 1}, new int[] {2, 1, 0});
        Check.town(x, "corner 1 1;corner 1 1;corner 1 1 well;street 0 1;street 1 2;street 0 2;");
        layings(x, 0, 3, new int[] {0, 1, 2}, new int[] {1, 0, 2});
        Check.town(x, "corner 1 1;corner 2 1;corner 1 1;street 0 1;street 1 2;street 0 2;");
        layings(x, 0, 3, new int[] {0, 1, 2}, new int[] {2, 1, 0});
        // 1 and 2 have no streets, and may change places.
        Check.town(x, "corner 1 1;corner 1 1;corner 1 1;corner 1 1;street 0 3;");
        layings(x, 0, 4, new int[] {0, 1, 2, 3}, new int[] {0, 2, 1, 3}, new int[] {3, 1, 2, 0},
            new int[] {3, 2, 1, 0});
    }

    private static void turnsOfCornersWithoutStreets() {
        SidelessTown x = Check.withTown("corner 1 1;corner 1 1;corner 1 1;corner 1 1;street 2 3;");
        for (int what = 0; what <= 1; what++) {
            layings(x, what, 4, new int[] {0, 1, 2, 3}, new int[] {0, 1, 3, 2}, new int[] {1, 0, 2, 3},
                new int[] {1, 0, 3, 2});
        }
        Check.town(x, "corner 1 1;corner 1 1;corner 2 1;corner 2 1;corner 1 2;corner 1 1 well;street 2 3;");
        for (int what = 0; what <= 1; what++) {
            layings(x, what, 6, new int[] {0, 1, 2, 3, 4, 5}, new int[] {0, 1, 3, 2, 4, 5},
                new int[] {1, 0, 2, 3, 4, 5}, new int[] {1, 0, 3, 2, 4, 5});
        }
        Check.town(x, "corner 1 1;".repeat(8) + "street 6 7;");
        Check.due("six that change places, two that do", x.laid(0, -1, 7), 1440);
        Check.due("the last of them, at 0", x.laid(0, 1439, 0), 5);
        Check.due("the last of them, at 6", x.laid(0, 1439, 6), 7);
        Check.due("none behind it", x.laid(0, 1440, 0), NONE);
        Check.town(x, "corner 1 1;".repeat(8) + "street 0 1;street 2 3;street 4 5;street 6 7;");
        Check.due("four pairs", x.laid(0, -1, 0), 24 * 16);
        Check.due("four pairs, the last, at 0", x.laid(1, 383, 0), 7);
        Check.due("four pairs, the last, at 1", x.laid(1, 383, 1), 6);
        Check.due("four pairs, the last, at 7", x.laid(1, 383, 7), 0);
    }

    /** The order about the last corner counts as that about the first, that of a part of the town as that of another. */
    private static void ordersOfAllParts() {
        SidelessTown x = Check.withTown("corner 5 1;corner 5 1;corner 5 1;corner 5 0;street 3 0;street 3 1;street 3 2;");
        layings(x, 0, 4, new int[] {0, 1, 2, 3}, new int[] {1, 2, 0, 3}, new int[] {2, 0, 1, 3});
        layings(x, 1, 4, new int[] {0, 2, 1, 3}, new int[] {1, 0, 2, 3}, new int[] {2, 1, 0, 3});
        Check.town(x, "corner 1 1;corner 1 1;corner 5 5;corner 2 1;corner 2 2;corner 2 3;"
            + "street 0 1;street 2 3;street 2 4;street 2 5;");
        layings(x, 0, 6, new int[] {0, 1, 2, 3, 4, 5}, new int[] {1, 0, 2, 3, 4, 5});
        layings(x, 1, 6);
        Check.due("ends() without images", x.ends(), NONE);
        x.mark(5, 2);
        layings(x, 1, 6, new int[] {0, 1, 2, 3, 5, 4}, new int[] {1, 0, 2, 3, 5, 4});
        Check.due("ends() of the other part", x.ends(), 4);
        Check.town(x, "corner 5 0;corner 5 0;corner 5 1;corner 5 2;corner 5 3;corner 5 4;corner 5 1;corner 5 3;"
            + "street 0 2;street 0 3;street 0 4;street 0 5;street 1 6;street 1 3;street 1 7;street 1 5;");
        // About 0 and 1 lie marks 1 2 3 4; 3 and 5 are beside both, so that they have two streets, and no order.
        layings(x, 0, 8, new int[] {0, 1, 2, 3, 4, 5, 6, 7}, new int[] {1, 0, 6, 3, 7, 5, 2, 4});
        layings(x, 1, 8);
    }

    /** What was asked ahead of a question does not matter to it, nor how the town came to be as it is. */
    private static void askedInTurn() {
        SidelessTown x = Check.withTown(WHEEL);
        for (int i = 0; i < 3; i++) {
            Check.due("the " + i + "-th image at 3", x.laid(1, i, 3), new int[] {2, 3, 1}[i]);
            Check.due("ends() behind it", x.ends(), NONE);
            Check.due("the " + i + "-th turn at 1", x.laid(0, i, 1), i + 1);
            Check.due("images behind it", x.laid(1, -1, 0), 3);
        }
        x.mark(1, 4);
        x.laid(1, 0, 3);
        Check.due("ends() with a mark", x.ends(), 2);
        x.image(0);
        x.mark(2, 5);
        Check.due("ends() with two marks", x.ends(), NONE);
        Check.due("no images", x.laid(1, -1, 0), 0);
        Check.due("one turn", x.laid(0, -1, 0), 1);
        x.restore(0);
        Check.due("ends() of what was kept", x.ends(), 2);
        Check.town(x, "corner 1 1;corner 1 1;street 0 1;");
        Check.due("ends() of another town: an image leaves both", x.ends(), NONE);
        Check.due("its images", x.laid(1, -1, 1), 2);
        Check.town(x, "corner 100 1;");
        Check.due("a town with a fault is none", x.laid(0, -1, 1), 2);
        x.shortest(0, 1, 0, -1);
        Check.due("soonest() behind shortest()", x.soonest(0, 0), NONE);
        Check.due("shortest() behind it", x.shortest(1, 0, 1, 0), 21);
    }

    private static void images() {
        SidelessTown x = Check.withTown(WHEEL);
        layings(x, 1, 4, new int[] {0, 1, 3, 2}, new int[] {0, 2, 1, 3}, new int[] {0, 3, 2, 1});
        x.mark(2, 9);
        layings(x, 1, 4, new int[] {0, 3, 2, 1});
        x.mark(3, 8);
        layings(x, 1, 4);
        Check.due("no image", x.laid(1, 0, 0), NONE);
        // A tetrahedron, told so that its orders lie as on a ball.
        Check.town(x, "corner 1 1;corner 1 1;corner 1 1;corner 1 1;"
            + "street 0 1;street 0 2;street 1 3;street 0 3;street 1 2;street 2 3;");
        Check.due("its turns", x.laid(0, -1, 0), 12);
        Check.due("its images", x.laid(1, -1, 0), 12);
        for (int c = 0; c < 4; c++) {
            Check.due("its second turn at " + c, x.laid(0, 1, c), new int[] {0, 2, 3, 1}[c]);
            Check.due("its last image at " + c, x.laid(1, 11, c), new int[] {3, 2, 0, 1}[c]);
        }
        // Streets on streets: a ring of four and a path of four have like corners but no like streets.
        Check.town(x, "corner 1 1;corner 1 1;corner 1 1;corner 1 1;street 0 1;street 1 2;street 2 3;street 3 0;");
        Check.due("turns of a ring", x.laid(0, -1, 0), 8);
        Check.due("images of a ring", x.laid(1, -1, 0), 8);
    }

    private static void ends() {
        SidelessTown x = Check.withTown(WHEEL);
        Check.due("some image leaves each where it is", x.ends(), NONE);
        x.mark(2, 9);
        Check.due("the only image moves 1", x.ends(), 1);
        x.mark(3, 8);
        Check.due("no images", x.ends(), NONE);
        x.mark(3, 1);
        x.mark(1, 9);
        Check.due("the only image moves 1 and 2", x.ends(), 1);
        x.mark(1, 1);
        x.mark(3, 9);
        x.mark(2, 1);
        Check.due("the only image moves 1 and 2, marks changed", x.ends(), 1);
        Check.due("no town", new SidelessTown().ends(), STATE);
        // Two wheels with their spokes marked the two ways round: the only image changes one for the other.
        Check.town(x, "corner 1 0;corner 1 0;corner 2 1;corner 2 2;corner 2 3;corner 2 1;corner 2 2;corner 2 3;"
            + "street 0 2;street 0 3;street 0 4;street 1 5;street 1 7;street 1 6;");
        layings(x, 0, 8, new int[] {0, 1, 2, 3, 4, 5, 6, 7});
        layings(x, 1, 8, new int[] {1, 0, 5, 6, 7, 2, 3, 4});
        Check.due("the only image moves all", x.ends(), 0);
    }

    private static void wrongNumbers() {
        SidelessTown x = Check.withTown("corner 1 1;corner 2 2;street 0 1;");
        int[][] pairs = {{-1, 0}, {2, 0}, {0, 2}, {0, -1}};
        for (int[] p : pairs) {
            Check.due("apart of wrong numbers", x.apart(p[0], p[1]), BAD);
            Check.due("soonest of wrong numbers", x.soonest(p[0], p[1]), BAD);
        }
        int[][] ways = {{-1, 0, 0, 0}, {2, 0, 0, 0}, {0, -1, 0, 0}, {0, 2, 0, 0}, {0, 0, -1, 0}, {0, 0, 2, 0},
            {0, 0, 0, -2}, {0, 0, 0, Integer.MIN_VALUE}};
        for (int[] w : ways) {
            Check.due("shortest of wrong numbers", x.shortest(w[0], w[1], w[2], w[3]), BAD);
        }
        int[][] laid = {{-1, 0, 0}, {2, 0, 0}, {0, -2, 0}, {0, 0, 2}, {0, -1, 2}, {1, 0, -1}};
        for (int[] l : laid) {
            Check.due("laid of wrong numbers", x.laid(l[0], l[1], l[2]), BAD);
        }
        SidelessTown none = new SidelessTown();
        Check.due("apart without a town", none.apart(0, 1), BAD);
        Check.due("shortest without a town", none.shortest(0, 0, 0, -1), BAD);
        Check.due("soonest without a town", none.soonest(0, 0), BAD);
        Check.due("laid without a town", none.laid(0, -1, 0), BAD);
    }
}
