/** Promise 24: how many steps a moving stair has standing still. */
public final class StillTest {
    private static final Due due = new Due("StillTest");

    public static void main(String[] args) {
        for (int c = 1; c <= 14; c++) {
            for (int t = 1; t <= 14; t++) {
                for (int other = 1; other <= 14; other++) {
                    for (int seconds = 1; seconds <= 14; seconds++) {
                        one(c, t, other, seconds);
                    }
                }
            }
        }
        one(999, 998, 997, 999);
        one(999, 1, 1, 999);
        one(1, 999, 999, 1);
        one(999, 999, 999, 1);
        int[] wrong = {Integer.MIN_VALUE, -1, 0, 1000, Integer.MAX_VALUE};
        for (int bad : wrong) {
            for (int what = 0; what < 2; what++) {
                due.is("c " + bad, -1, x().still(bad, 30, 32, 20, what));
                due.is("t " + bad, -1, x().still(20, bad, 32, 20, what));
                due.is("other " + bad, -1, x().still(20, 30, bad, 20, what));
                due.is("seconds " + bad, -1, x().still(20, 30, 32, bad, what));
            }
        }
        due.is("what 2", -1, x().still(20, 30, 32, 20, 2));
        due.is("what -1", -1, x().still(20, 30, 32, 20, -1));
        due.is("one number", -1, x().still(20, 30, 32, 30, 0));
        due.is("any number", -1, x().still(20, 30, 20, 30, 1));
        due.is("standing still already", 20, x().still(20, 30, 20, 31, 0));
        due.is("0", -1, x().still(1, 2, 2, 4, 0));
        due.end();
    }

    private static StairWays x() {
        return new StairWays();
    }

    /** The speed is sought among all that a number of steps above / below would give. */
    private static void one(int c, int t, int other, int seconds) {
        StairWays x = x();
        long above = x.still(c, t, other, seconds, 0);
        long below = x.still(c, t, other, seconds, 1);
        String what = "still " + c + " " + t + " " + other + " " + seconds;
        // steps = c + t * v = other + seconds * v: none, all, or one v
        double v = t == seconds ? 0 : (double) (c - other) / (seconds - t);
        boolean is = t != seconds && c + t * v > 1e-9;
        due.is(what + " is", is, above != -1);
        due.is(what + " is", is, below != -1);
        if (is) {
            due.is(what + " above 0", true, above > 0 && below > 0);
            // (above / below - c) / t = (above / below - other) / seconds
            due.is(what, (above - other * below) * t, (above - c * below) * seconds);
            for (long divisor = 2; divisor <= below; divisor++) {
                due.is(what + " lowest", false, above % divisor == 0 && below % divisor == 0);
            }
        }
    }
}
