/** What the tests share: counting answers that are not due, and feeding texts. */
final class Check {
    private static int wrong = 0;

    private Check() { }

    static void due(String call, long got, long want) {
        if (got != want) {
            wrong++;
            System.out.println(call + " answered " + got + ", due is " + want);
        }
    }

    static void holds(String what, boolean is) {
        if (!is) {
            wrong++;
            System.out.println("not so: " + what);
        }
    }

    /** To be called last: ends the test, with exit code 1 if an answer was wrong. */
    static void end() {
        if (wrong > 0) {
            System.out.println(wrong + " answers are not as due");
            System.exit(1);
        }
    }

    /** Feeds a text of bytes 0 to 255, eight at a time. */
    static void feed(SidelessTown x, String text) {
        for (int from = 0; from < text.length(); from += 8) {
            int n = Math.min(8, text.length() - from);
            long w = 0;
            for (int i = 0; i < n; i++) {
                w = w << 8 | text.charAt(from + i) & 255;
            }
            x.feed(w, n);
        }
    }

    static int town(SidelessTown x, String text) {
        feed(x, text);
        return x.town();
    }

    static int say(SidelessTown x, String text) {
        feed(x, text);
        return x.say();
    }

    static SidelessTown withTown(String text) {
        SidelessTown x = new SidelessTown();
        int corners = town(x, text);
        holds("is a town: " + text, corners >= 2);
        return x;
    }
}
