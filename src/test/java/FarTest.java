import java.math.BigInteger;
import java.util.NoSuchElementException;
import java.util.Random;

/** Promises 10 to 16, 18, 19, 22, 23, 25, 26 on stairs too long for the plain model. */
public final class FarTest {
    private static final Due due = new Due("FarTest");
    private static final String FULL = "stair 40 ; strides 1 2 3 4 5 6 ; creak 7 ; creak 8 ; creak 13 ; creak 21 ; creak 22 ; creak 30 ;"
        + " creaks 2 ; broken 5 ; broken 33 ; landing 17 ; bar 1 1 ; bar 2 3 ; bar 6 5 ; foot right ; count 9 to 21 ; great 4 times 3 ;"
        + " mood stride + last - taken ;";

    public static void main(String[] args) {
        numbers();
        ranks("stair 40 ;");
        ranks("stair 40 ; strides 1 2 3 4 5 6 ;");
        ranks("stair 40 ; strides 12 7 3 1 ; foot left ;");
        ranks("stair 39 ; strides 1 2 3 ; count 20 to 25 ; bar 1 1 ;");
        ranks(FULL);
        none();
        plain();
        crowds();
        two();
        fewest();
        fewestByLongChains();
        games();
        due.end();
    }

    private static void numbers() {
        StairWays x = Due.on("stair 40 ;");
        due.is("forty by ones and twos", 165580141L, x.many());
        due.is("forty by forty", 1, x.manyOf(40));
        due.is("forty by twenty", 1, x.manyOf(20));
        due.is("forty by nineteen", 0, x.manyOf(19));
        due.is("forty by thirty", 30045015L, x.manyOf(30));
        long sixes = 0;
        long[] row = new long[41];
        row[0] = 1;
        for (int i = 1; i <= 40; i++) {
            for (int s = 1; s <= 6 && s <= i; s++) {
                row[i] += row[i - s];
            }
            sixes = row[i];
        }
        x = Due.on("stair 40 ; strides 6 5 4 3 2 1 ;");
        due.is("forty by one to six", sixes, x.many());
        due.is("the last one", 6, x.nth(sixes - 1, 0));
        due.is("none behind it", -1, x.nth(sixes, 0));
        due.is("manyOf -1", -1, x.manyOf(-1));
        due.is("manyOf 41", -1, x.manyOf(41));
        due.is("manyOf 0", 0, x.manyOf(0));
        due.is("manyOf least", -1, x.manyOf(Integer.MIN_VALUE));
    }

    /** A way found by its number has that number as its rank, and is lawful. */
    private static void ranks(String text) {
        StairWays x = Due.on(text);
        Random chance = new Random(7);
        long many = x.many();
        long sum = 0;
        for (int strides = 0; strides <= 40; strides++) {
            sum += x.manyOf(strides);
        }
        due.is("all of so many strides on " + text, many, sum);
        due.is("dust tells nothing on " + text, many, x.fit());
        for (int i = 0; i < 40; i++) {
            long number = i == 0 ? 0 : i == 1 ? many - 1 : Math.floorMod(chance.nextLong(), many);
            x.back(true);
            for (int k = 0; x.nth(number, k) != -1; k++) {
                long left = x.many();
                due.is("may", true, x.stride(x.nth(number, k)));
                due.is("fewer go on so", true, x.many() <= left && x.many() > 0);
                due.is("fair is of those that go on so", true, x.count(1) == x.count(0) || x.may(x.fair(i, 0)));
            }
            due.is("lawful on " + text, 0, x.lawful());
            due.is("rank on " + text, number, x.rank());
            due.is("one", 1, x.many());
            due.is("no stride is left", -1, x.fair(i, 0));
        }
        due.is("beyond", -1, x.nth(many, 0));
        due.is("below", -1, x.nth(-1, 0));
        due.is("far beyond", -1, x.nth(Long.MAX_VALUE, 0));
        due.is("far below", -1, x.nth(Long.MIN_VALUE, 0));
        due.is("i below", -1, x.nth(0, -1));
        due.is("i far beyond", -1, x.nth(0, Integer.MAX_VALUE));
        due.is("i far below", -1, x.nth(0, Integer.MIN_VALUE));
        x.back(true);
        due.is("seed below", -1, x.fair(-1, 0));
        due.is("seed beyond", -1, x.fair(10000, 0));
        due.is("seed most", true, x.fair(9999, 0) > 0);
        due.is("i below", -1, x.fair(0, -1));
        due.is("i beyond", -1, x.fair(0, 40));
        due.is("i far beyond", -1, x.fair(0, Integer.MAX_VALUE));
    }

    private static void none() {
        StairWays x = Due.on("stair 7 ; strides 2 ;");
        due.is("many", 0, x.many());
        due.is("nth", -1, x.nth(0, 0));
        due.is("fair", -1, x.fair(0, 0));
        due.is("fit", 0, x.fit());
        due.is("two", 0, x.two());
        due.is("climb", 6, x.climb(0, 0));
        due.is("climb", 3, x.climb(0, 1));
        due.is("crowd", 0, x.crowd(5, 7));
        due.is("crowd", 5, x.crowd(5, 6));
        due.is("weary", 15, x.weary(5));
        due.is("fewest", 0, x.fewest());
        x.dust(2, 1);
        due.is("fewest", -1, x.fewest());
        due.is("game: 2, 2, 2 and none is left", 2, x.game());
        due.is("seed below", -1, x.climb(-1, 0));
        due.is("seed beyond", -1, x.climb(10000, 1));
        due.is("what", -1, x.climb(0, 2));
        due.is("what", -1, x.climb(0, -1));
    }

    private static boolean isThrown(StairWays x, int steps, int number) {
        try {
            x.plain(steps, number);
            return false;
        } catch (NoSuchElementException e) {
            return true;
        }
    }

    private static void plain() {
        StairWays x = Due.on("stair 3 ; broken 1 ; landing 2 ; bar 1 1 ; count 1 to 1 ; creaks 0 ; great 1 times 0 ;");
        for (int steps : new int[] {0, 1, 2, 10, 1000, 123456789, 999999998, 999999999}) {
            for (int number : new int[] {1, 2, 10, 997, 9999}) {
                due.is("plain " + steps + " by " + number, fibonacci(steps + 1L, number), x.plain(steps, number));
            }
        }
        due.is("steps below", true, isThrown(x, -1, 5));
        due.is("steps beyond", true, isThrown(x, 1000000000, 5));
        due.is("steps least", true, isThrown(x, Integer.MIN_VALUE, 5));
        due.is("number 0", true, isThrown(x, 5, 0));
        due.is("number below", true, isThrown(x, 5, -7));
        due.is("number beyond", true, isThrown(x, 5, 10000));
        due.is("number most", false, isThrown(x, 5, 9999));
        due.is("steps most", false, isThrown(x, 999999999, 1));
        for (int stride = 1; stride <= 12; stride++) {
            x = Due.on("stair 1 ; strides " + stride + " ;");
            due.is("by " + stride + " alone", 999999999 % stride == 0 ? 1 : 0, x.plain(999999999, 9999));
            due.is("by " + stride + " alone", 1, x.plain(stride * 83333333, 9999));
        }
        wholeRow("1 2 3 4 5 6", new int[] {1, 2, 3, 4, 5, 6});
        wholeRow("7 8 9 10 11 12", new int[] {7, 8, 9, 10, 11, 12});
        wholeRow("5 12", new int[] {5, 12});
    }

    private static void wholeRow(String told, int[] strides) {
        StairWays x = Due.on("stair 1 ; strides " + told + " ;");
        int number = 9999;
        int[] row = new int[200001];
        row[0] = 1;
        for (int i = 1; i < row.length; i++) {
            for (int stride : strides) {
                row[i] = (row[i] + (i >= stride ? row[i - stride] : 0)) % number;
            }
            if (i < 40 || i % 40000 == 0 || (i & i - 1) == 0) {
                due.is("plain " + i + " by " + told, row[i], x.plain(i, number));
            }
        }
    }

    /** By doubling, another road than the program's. */
    private static long fibonacci(long n, long number) {
        BigInteger m = BigInteger.valueOf(number);
        BigInteger a = BigInteger.ZERO;
        BigInteger b = BigInteger.ONE;
        for (int bit = 62; bit >= 0; bit--) {
            BigInteger c = a.multiply(b.shiftLeft(1).subtract(a)).mod(m);
            BigInteger d = a.multiply(a).add(b.multiply(b)).mod(m);
            a = c;
            b = d;
            if ((n >> bit & 1) != 0) {
                BigInteger sum = a.add(b).mod(m);
                a = b;
                b = sum;
            }
        }
        return a.mod(m).longValue();
    }

    private static void crowds() {
        StairWays x = Due.on(FULL);
        long many = 1000000000000L;
        due.is("foot", many, x.crowd(many, 0));
        due.is("nobody on a broken step", 0, x.crowd(many, 33));
        due.is("below", -1, x.crowd(0, 0));
        due.is("beyond", -1, x.crowd(many + 1, 0));
        due.is("least", -1, x.crowd(Long.MIN_VALUE, 0));
        due.is("step below", -1, x.crowd(1, -1));
        due.is("step beyond", -1, x.crowd(1, 41));
        due.is("step most", -1, x.crowd(1, Integer.MAX_VALUE));
        due.is("weary below", -1, x.weary(0));
        due.is("weary beyond", -1, x.weary(many + 1));
        due.is("weary least", -1, x.weary(Long.MIN_VALUE));
        long treads = 0;
        for (int step = 1; step <= 40; step++) {
            treads += x.crowd(many, step);
        }
        due.is("each stride ends on a step", treads, x.weary(many));
        due.is("another crowd", 7, x.crowd(7, 0));
        due.is("again", treads, x.weary(many));
        due.is("not by another stair", 0, Due.read(x, "stair 3 ; mood 0 ;"));
        due.is("all stay", 0, x.weary(many));
        due.is("all stay", 0, x.crowd(many, 3));
        due.is("all stay", 0, x.climb(5, 0));
        x = Due.on("stair 3 ; mood stride = 2 or step = 2 ;");
        due.is("by twos, then one", 2, x.climb(5, 1));
        due.is("three by two", 2 * 3, x.weary(3));
    }

    /** Counts beats, another road than the program's. */
    private static long pairs(int top, int[] strides, boolean[] broken) {
        long[][] now = new long[top + 1][top + 1];
        now[0][top] = 1;
        long come = 0;
        for (int beat = 0; beat < top; beat++) {
            long[][] next = new long[top + 1][top + 1];
            for (int up = 0; up <= top; up++) {
                for (int down = 0; down <= top; down++) {
                    for (int one : up == top ? new int[] {0} : strides) {
                        for (int other : down == 0 ? new int[] {0} : strides) {
                            int a = up + one;
                            int b = down - other;
                            if (a <= top && b >= 0 && a != b && !broken[a] && !broken[b]) {
                                next[a][b] += now[up][down];
                            }
                        }
                    }
                }
            }
            come += next[top][0];
            next[top][0] = 0;
            now = next;
        }
        return come;
    }

    private static void two() {
        int[][] rows = {{1, 2}, {1, 2, 3, 4, 5, 6}, {2, 3}, {1}, {1, 12}};
        for (int top : new int[] {1, 2, 3, 12, 23, 24}) {
            for (int[] row : rows) {
                boolean[] broken = new boolean[top + 1];
                StringBuilder text = new StringBuilder("stair " + top + " ; foot left ; count 0 to 0 ; strides");
                for (int stride : row) {
                    text.append(' ').append(stride);
                }
                text.append(" ;");
                if (top > 7) {
                    broken[5] = true;
                    text.append(" broken 5 ; landing 4 ; creak 6 ; creaks 0 ;");
                }
                due.is("two on " + text, pairs(top, row, broken), Due.on(text.toString()).two());
            }
        }
        due.is("25", -1, Due.on("stair 25 ;").two());
    }

    /** As many climbers are needed as there are trodden steps of which none leads to another one. */
    private static int widest(int top, int[] strides, boolean[] closed, int[] trodden) {
        boolean[][] leads = new boolean[top + 1][top + 1];
        for (int from = top; from >= 0; from--) {
            for (int stride : strides) {
                int to = from + stride;
                if (to <= top && !closed[to]) {
                    leads[from][to] = true;
                    for (int k = 0; k <= top; k++) {
                        leads[from][k] |= leads[to][k];
                    }
                }
            }
        }
        for (int step : trodden) {
            if (closed[step] || !leads[0][step] || !leads[step][top]) {
                return -1;
            }
        }
        int most = 0;
        for (int set = 0; set < 1 << trodden.length; set++) {
            boolean apart = true;
            for (int i = 0; i < trodden.length && apart; i++) {
                for (int k = 0; k < trodden.length && apart; k++) {
                    apart = (set >> i & 1) == 0 || (set >> k & 1) == 0 || !leads[trodden[i]][trodden[k]];
                }
            }
            most = apart ? Math.max(most, Integer.bitCount(set)) : most;
        }
        return most;
    }

    private static void fewest() {
        Random chance = new Random(11);
        int[][] rows = {{2, 3}, {3, 5, 7}, {4, 6, 9}, {7, 8, 9, 10, 11, 12}, {1, 12}, {5, 6}, {11, 12}};
        int found = 0;
        for (int run = 0; run < 3000; run++) {
            int top = 10 + chance.nextInt(31);
            int[] row = rows[chance.nextInt(rows.length)];
            StringBuilder text = new StringBuilder("stair " + top + " ; strides");
            for (int stride : row) {
                text.append(' ').append(stride);
            }
            text.append(" ; landing 1 ; foot left ; count 0 to 1 ;");
            boolean[] closed = new boolean[top + 1];
            if (chance.nextInt(3) == 0) {
                int step = 2 + chance.nextInt(top - 2);
                closed[step] = true;
                text.append(" broken ").append(step).append(" ;");
            }
            StairWays x = Due.on(text.toString());
            int shut = 1 + chance.nextInt(top - 1);
            if (chance.nextInt(3) == 0) {
                closed[shut] = true;
                x.dust(shut, 2);
            }
            boolean[] swept = new boolean[top];
            int wanted = chance.nextInt(12);
            for (int i = 0; i < wanted; i++) {
                int step = 1 + chance.nextInt(top - 1);
                // not by steps to which none comes: such would be most of the runs
                if (widest(top, row, closed, new int[] {step}) == 1 || chance.nextInt(40) == 0 && x.step(step, 2) != 2) {
                    swept[step] = true;
                    x.dust(step, 1);
                }
            }
            int[] trodden = new int[top];
            int number = 0;
            for (int step = 1; step < top; step++) {
                if (swept[step]) {
                    trodden[number++] = step;
                }
            }
            int want = widest(top, row, closed, java.util.Arrays.copyOf(trodden, number));
            found += want > 2 ? 1 : 0;
            due.is("fewest on " + text, want, x.fewest());
        }
        due.is("many runs need three", true, found > 100);
    }

    /** Almost all steps are trodden: to join one of them more than twenty others have to move aside. */
    private static void fewestByLongChains() {
        swept("1 3 7 8 11 12", "121102121111111111111110212111111111121", 2);
        swept("1 5", "120211112101111211011111111111111112201", 2);
        swept("1 3 9", "121122121121122121111121111111111101121", 3);
        swept("1 3 4 8 9 11", "121112212112111111111111111111111111121", 2);
    }

    private static void swept(String strides, String dusts, int want) {
        StairWays x = Due.on("stair 40 ; strides " + strides + " ;");
        for (int i = 0; i < dusts.length(); i++) {
            due.is("dust", true, x.dust(i + 1, dusts.charAt(i) - '0'));
        }
        due.is("fewest by " + strides + " on " + dusts, want, x.fewest());
    }

    private static void games() {
        for (int top = 1; top <= 40; top++) {
            StairWays x = Due.on("stair " + top + " ; strides 3 2 1 ; foot left ; count 40 to 40 ;");
            due.is("game of " + top, top % 4, x.game());
            due.is("at the top", 0, x.climb(0, 0) - top);
        }
        StairWays x = Due.on("stair 2 ;");
        due.is("the first one that wins", 2, x.game());
        x.stride(2);
        due.is("at the top", -1, x.game());
        x = Due.on("stair 3 ; strides 1 3 ;");
        due.is("the lesser one ahead, if it wins", 1, Due.on("stair 3 ; strides 3 1 ;").game());
        due.is("who has none has lost", 1, Due.on("stair 3 ; strides 1 2 ; broken 2 ; landing 1 ; bar 1 2 ;").game());
        due.is("none wins", 0, Due.on("stair 3 ; strides 2 ; broken 2 ;").game());
        due.is("count to", 1, Due.on("stair 9 ; strides 1 ; count 0 to 1 ;").game());
        due.is("count to", 0, Due.on("stair 9 ; strides 1 ; count 0 to 2 ;").game());
    }
}
