/** Counts and prints answers that are not as due. */
final class Due {
    private final String test;
    private int asked;
    private int wrong;

    Due(String test) {
        this.test = test;
    }

    void is(String what, long want, long got) {
        asked++;
        if (got != want) {
            wrong++;
            if (wrong <= 40) {
                System.out.println(test + ": " + what + " answered " + got + ", due is " + want);
            }
        }
    }

    void is(String what, boolean want, boolean got) {
        is(what, want ? 1 : 0, got ? 1 : 0);
    }

    void end() {
        System.out.println(test + ": " + asked + " answers, " + wrong + " wrong");
        if (wrong != 0 || asked == 0) {
            System.exit(1);
        }
    }

    /** Puts a text behind the tape. */
    static int feed(StairWays x, String text) {
        int length = x.count(7);
        for (int at = 0; at < text.length(); at += 24) {
            length = x.feed(eight(text, at), eight(text, at + 8), eight(text, at + 16));
        }
        return length;
    }

    /** Feeds a text and reads it. */
    static int read(StairWays x, String text) {
        feed(x, text);
        return x.stair();
    }

    static StairWays on(String text) {
        StairWays x = new StairWays();
        int fault = read(x, text);
        if (fault != 0) {
            throw new IllegalStateException(text + " has the fault " + fault);
        }
        return x;
    }

    private static long eight(String text, int from) {
        long bytes = 0;
        for (int i = from; i < from + 8; i++) {
            bytes = bytes << 8 | (i < text.length() ? text.charAt(i) & 255 : 0);
        }
        return bytes;
    }
}
