import java.util.NoSuchElementException;

/** The boundary cases of promises 4 to 28, a method for each; the sentence of the document stands above it. */
public final class CallEdgeTest {
    private static final Due due = new Due("CallEdgeTest");
    private static final long MOST_CROWD = 1_000_000_000_000L;
    // what no stair has as a step, a stride, a place or a what
    private static final int[] FAR = {Integer.MIN_VALUE, Integer.MIN_VALUE + 1, -1_000_000, -65, -64, -33, -32, -31, -2, -1,
        64, 65, 1_000_000, Integer.MAX_VALUE - 1, Integer.MAX_VALUE};
    private static final String ODD = "stair 9 ; strides 2 ;";

    public static void main(String[] args) {
        steps();
        heaps();
        dustOfSteps();
        mayTold();
        mayWithin();
        mayLimits();
        strideAndBack();
        taken();
        lawful();
        lawfulWays();
        many();
        manyOf();
        rank();
        nth();
        plain();
        plainStrides();
        crowd();
        crowdParts();
        crowdGroups();
        weary();
        weight();
        two();
        game();
        fourHeaps();
        dust();
        fit();
        fewest();
        still();
        fair();
        climb();
        draws();
        marks();
        counts();
        due.end();
    }

    /** "Of a step (0 to the top), what 0: 0 plain, 1 broken, 2 creak, 3 landing ... NONE: others." */
    private static void steps() {
        for (int top : new int[] {1, 2, 40}) {
            StairWays x = Due.on("stair " + top + " ;");
            for (int what = 0; what <= 2; what++) {
                due.is("step(-1, " + what + ")", -1, x.step(-1, what));
                due.is("step(0, " + what + ") is one", true, x.step(0, what) != -1);
                due.is("step(top, " + what + ") is one", true, x.step(top, what) != -1);
                due.is("step(top + 1, " + what + ")", -1, x.step(top + 1, what));
                for (int far : FAR) {
                    due.is("step(" + far + ", " + what + ")", -1, x.step(far, what));
                }
            }
            for (int step = 0; step <= top; step++) {
                due.is("what -1", -1, x.step(step, -1));
                due.is("what 3", -1, x.step(step, 3));
            }
            for (int far : FAR) {
                due.is("what " + far, -1, x.step(0, far));
            }
        }
        StairWays x = Due.on("stair 5 ; broken 1 ; creak 2 ; landing 4 ;");
        int[] kinds = {0, 1, 2, 0, 3, 0};
        for (int step = 0; step <= 5; step++) {
            due.is("kind of " + step, kinds[step], x.step(step, 0));
        }
    }

    /** "HEAP of a step: the least number (from 0) that is not the HEAP of a step to which a told stride leads up ...; the top is 0"; "NONE: broken". */
    private static void heaps() {
        StairWays x = Due.on("stair 9 ; strides 1 2 3 4 5 6 ;");
        for (int step = 0; step <= 9; step++) {
            due.is("heap by six strides of " + step, (9 - step) % 7, x.step(step, 1));
        }
        x = Due.on("stair 9 ; strides 12 ;");
        for (int step = 0; step <= 9; step++) {
            due.is("no stride leads up within", 0, x.step(step, 1));
        }
        x = Due.on("stair 4 ; broken 3 ;");
        due.is("broken", -1, x.step(3, 1));
        due.is("2: by two to the top", 1, x.step(2, 1));
        due.is("1: to 2", 0, x.step(1, 1));
        due.is("0: to 1 and 2", 2, x.step(0, 1));
        x = Due.on("stair 4 ; landing 2 ; creak 3 ; creaks 0 ; count 0 to 0 ; bar 1 1 ; great 1 times 0 ;");
        for (int step = 0; step <= 4; step++) {
            due.is("nothing else matters for the heap of " + step, (4 - step) % 3, x.step(step, 1));
        }
        x = Due.on("stair 40 ; strides 1 ;");
        due.is("the foot of forty by ones", 0, x.step(0, 1));
        due.is("39", 1, x.step(39, 1));
    }

    /** "2: dust (0 not told, 1 trodden, 2 not)". */
    private static void dustOfSteps() {
        StairWays x = Due.on("stair 40 ; broken 5 ;");
        for (int step = 0; step <= 40; step++) {
            due.is("dust of " + step + " at first", 0, x.step(step, 2));
        }
        due.is("told of 1", true, x.dust(1, 1));
        due.is("told of 39", true, x.dust(39, 2));
        due.is("told of a broken one", true, x.dust(5, 1));
        due.is("1", 1, x.step(1, 2));
        due.is("39", 2, x.step(39, 2));
        due.is("5", 1, x.step(5, 2));
        due.is("not of the foot", 0, x.step(0, 2));
        due.is("not of the top", 0, x.step(40, 2));
    }

    /** "a stride may be next, if it is told, does not go beyond the top". */
    private static void mayTold() {
        StairWays x = Due.on("stair 40 ; strides 1 12 ;");
        for (int stride = -1; stride <= 70; stride++) {
            due.is("may " + stride, stride == 1 || stride == 12, x.may(stride));
            due.is("weight " + stride, stride == 1 || stride == 12 ? 1 : -1, x.weight(stride));
        }
        for (int far : FAR) {
            due.is("may " + far, false, x.may(far));
            due.is("stride " + far, false, x.stride(far));
        }
        x = Due.on("stair 13 ; strides 12 1 ;");
        due.is("up to 12", true, x.stride(12));
        due.is("not beyond the top", false, x.may(12));
        due.is("just the top", true, x.stride(1));
        due.is("none at the top", false, x.may(1) || x.may(12) || x.may(0));
        x = Due.on("stair 12 ; strides 12 ;");
        due.is("just the top at once", true, x.may(12));
        x = Due.on("stair 11 ; strides 12 ;");
        due.is("one beyond the top", false, x.may(12));
    }

    /** "[not] on a broken step, over a landing, is not barred behind the last one". */
    private static void mayWithin() {
        StairWays x = Due.on("stair 9 ; strides 1 2 3 4 ; broken 3 ; landing 5 ;");
        due.is("below the broken one", true, x.may(2));
        due.is("onto the broken one", false, x.may(3));
        due.is("over the broken one", true, x.may(4));
        x.stride(4);
        due.is("onto the landing", true, x.may(1));
        due.is("just over the landing", false, x.may(2));
        due.is("far over the landing", false, x.may(4));
        x.stride(1);
        due.is("up from the landing", true, x.may(4));
        x = Due.on("stair 9 ; strides 1 2 3 ; landing 1 ; landing 2 ; landing 8 ;");
        due.is("over the first of two landings", false, x.may(2));
        x.stride(1);
        due.is("over the second one", false, x.may(2));
        x.stride(1);
        due.is("between landings", true, x.may(3));
        x = Due.on("stair 9 ; bar 1 1 ; bar 2 1 ;");
        due.is("no stride is ahead of the first one", true, x.may(1));
        x.stride(1);
        due.is("barred behind 1", false, x.may(1));
        x.stride(2);
        due.is("barred behind 2", false, x.may(1));
        x.back(true);
        due.is("at the foot again", true, x.may(1));
    }

    /** "neither creaks nor great ones nor strides in all get too many (foot and the least of count do not matter for it)". */
    private static void mayLimits() {
        StairWays x = Due.on("stair 9 ; creak 1 ; creak 3 ; creaks 1 ;");
        due.is("the first creak", true, x.stride(1));
        due.is("a second one", false, x.may(2));
        due.is("no creak", true, x.may(1));
        x = Due.on("stair 9 ; strides 1 2 3 ; great 2 times 1 ;");
        due.is("the first great one", true, x.stride(2));
        due.is("a second one of just so much", false, x.may(2));
        due.is("a second one of more", false, x.may(3));
        due.is("a lesser one", true, x.may(1));
        x = Due.on("stair 9 ; count 9 to 9 ; foot right ;");
        due.is("the least of count and foot do not matter", true, x.may(2));
        x = Due.on("stair 9 ; count 0 to 2 ;");
        due.is("one", true, x.stride(1));
        due.is("two", true, x.stride(1));
        due.is("three", false, x.may(1));
        due.is("back", true, x.back(false));
        due.is("two again", true, x.may(1));
        x = Due.on("stair 40 ; strides 1 ; count 40 to 40 ;");
        for (int i = 0; i < 40; i++) {
            due.is("stride " + i + " of 40", true, x.stride(1));
        }
        due.is("at the top by 40", 0, x.lawful());
        x = Due.on("stair 40 ; strides 1 ; count 0 to 39 ;");
        for (int i = 0; i < 39; i++) {
            due.is("stride " + i + " of 39", true, x.stride(1));
        }
        due.is("no fortieth", false, x.may(1));
    }

    /** "A stride by hand: true; false: it MAY not be."; "A stride back (all: down to the foot): true; false: one is at the foot." */
    private static void strideAndBack() {
        StairWays x = Due.on("stair 40 ;");
        due.is("back at the foot", false, x.back(false));
        due.is("down at the foot", false, x.back(true));
        for (int i = 0; i < 20; i++) {
            due.is("up", true, x.stride(2));
        }
        due.is("at the top", 40, x.count(1));
        due.is("no stride at the top", false, x.stride(1));
        for (int i = 19; i >= 0; i--) {
            due.is("back", true, x.back(false));
            due.is("where", 2 * i, x.count(1));
            due.is("strides", i, x.count(2));
        }
        due.is("no further back", false, x.back(false));
        x.stride(1);
        due.is("down from one stride", true, x.back(true));
        due.is("no further down", false, x.back(true));
        x.stride(2);
        x.stride(2);
        due.is("down from two", true, x.back(true));
        due.is("where", 0, x.count(1));
        due.is("strides", 0, x.count(2));
    }

    /** "The i-th stride by hand; NONE: others." */
    private static void taken() {
        StairWays x = Due.on("stair 40 ; strides 1 3 ;");
        due.is("none yet", -1, x.taken(0));
        for (int i = 0; i < 37; i++) {
            int stride = i == 36 ? 3 : 1;
            due.is("not yet " + i, -1, x.taken(i));
            x.stride(i == 36 ? 3 : 1);
            due.is("taken " + i, stride, x.taken(i));
            due.is("the first one stays", 1, x.taken(0));
        }
        due.is("beyond", -1, x.taken(37));
        for (int far : FAR) {
            due.is("taken " + far, -1, x.taken(far));
        }
        x.back(false);
        due.is("taken back", -1, x.taken(36));
        due.is("the one ahead of it", 1, x.taken(35));
        x.back(true);
        due.is("none", -1, x.taken(0));
        x = Due.on("stair 40 ; strides 1 ;");
        for (int i = 0; i < 40; i++) {
            x.stride(1);
        }
        due.is("the fortieth", 1, x.taken(39));
        due.is("no more", -1, x.taken(40));
    }

    private static StairWays climbed(String text, int... strides) {
        StairWays x = Due.on(text);
        for (int stride : strides) {
            due.is("stride " + stride + " on '" + text + "'", true, x.stride(stride));
        }
        return x;
    }

    /** "At the top by hand: 0 it is LAWFUL, 1 the foot is another one, 2 it has too few strides; NONE: not at the top." */
    private static void lawful() {
        due.is("at the foot", -1, climbed("stair 4 ;").lawful());
        due.is("one below", -1, climbed("stair 4 ;", 1, 2).lawful());
        due.is("at the top", 0, climbed("stair 4 ;", 2, 2).lawful());
        for (int least = 0; least <= 6; least++) {
            int want = 4 < least ? 2 : 0;
            due.is("four strides of at least " + least, want, climbed("stair 6 ; count " + least + " to 6 ;", 1, 1, 2, 2).lawful());
        }
        due.is("as many as count allows", 0, climbed("stair 6 ; count 0 to 4 ;", 1, 1, 2, 2).lawful());
        due.is("just as many", 0, climbed("stair 6 ; count 4 to 4 ;", 1, 1, 2, 2).lawful());
        for (int paces = 1; paces <= 4; paces++) {
            int[] ones = new int[paces];
            java.util.Arrays.fill(ones, 1);
            String text = "stair " + paces + " ; strides 1 ; foot ";
            due.is("left by " + paces, paces % 2 == 1 ? 0 : 1, climbed(text + "left ;", ones).lawful());
            due.is("right by " + paces, paces % 2 == 0 ? 0 : 1, climbed(text + "right ;", ones).lawful());
        }
        due.is("left and too few", 2, climbed("stair 2 ; foot left ; count 2 to 2 ;", 2).lawful());
        due.is("not right, and too few", 1, climbed("stair 2 ; foot right ; count 2 to 2 ;", 2).lawful());
    }

    /** LAWFUL: each clause at its limit, by how many ways there are. */
    private static void lawfulWays() {
        String[] texts = {"stair 5 ;", "stair 5 ; broken 2 ;", "stair 5 ; landing 2 ;", "stair 5 ; broken 2 ; broken 3 ;", "stair 5 ; landing 1 ; landing 2 ; landing 3 ; landing 4 ;",
            "stair 5 ; creak 2 ; creak 3 ;", "stair 5 ; creak 2 ; creak 3 ; creaks 2 ;", "stair 5 ; creak 2 ; creak 3 ; creaks 1 ;", "stair 5 ; creak 2 ; creak 3 ; creaks 0 ;",
            "stair 5 ; bar 1 1 ;", "stair 5 ; bar 1 2 ;", "stair 5 ; bar 1 2 ; bar 2 1 ;", "stair 5 ; count 3 to 5 ;", "stair 5 ; count 0 to 3 ;", "stair 5 ; count 4 to 4 ;",
            "stair 5 ; count 6 to 40 ;", "stair 5 ; count 0 to 2 ;", "stair 5 ; foot left ;", "stair 5 ; foot right ;", "stair 5 ; great 2 times 2 ;", "stair 5 ; great 2 times 1 ;",
            "stair 5 ; great 2 times 0 ;", "stair 5 ; great 1 times 4 ;", "stair 5 ; great 3 times 0 ;", "stair 5 ; strides 3 ;", "stair 5 ; strides 5 ;", "stair 5 ; strides 6 ;"};
        // the eight: 11111 1112 1121 1211 122 2111 212 221
        int[] want = {8, 2, 6, 0, 1, 8, 8, 4, 0, 3, 3, 1, 8, 3, 4, 0, 0, 4, 4, 8, 5, 1, 7, 8, 0, 1, 0};
        for (int i = 0; i < texts.length; i++) {
            due.is("many on '" + texts[i] + "'", want[i], Due.on(texts[i]).many());
            due.is("fit on '" + texts[i] + "'", want[i], Due.on(texts[i]).fit());
        }
        // the five by the longest stride: 6 6 6 6, 6 6 12, 6 12 6, 12 6 6, 12 12
        due.is("6 behind 12 is barred", 3, Due.on("stair 24 ; strides 12 6 ; bar 12 6 ;").many());
        due.is("12 behind 12 is barred", 4, Due.on("stair 24 ; strides 12 6 ; bar 12 12 ;").many());
        due.is("12 behind 6 is barred", 3, Due.on("stair 24 ; strides 12 6 ; bar 6 12 ;").many());
        due.is("at most one of 12 or more", 4, Due.on("stair 24 ; strides 12 6 ; great 12 times 1 ;").many());
    }

    /** "how many LAWFUL WAYS there are that go on so from where one is": at the foot, in a dead end, at the top. */
    private static void many() {
        due.is("no way at all", 0, Due.on(ODD).many());
        StairWays x = climbed(ODD, 2, 2, 2, 2);
        due.is("a dead end", 0, x.many());
        due.is("at the top, lawful", 1, climbed("stair 4 ;", 2, 2).many());
        due.is("at the top, the other foot", 0, climbed("stair 4 ; foot left ;", 2, 2).many());
        due.is("at the top, too few", 0, climbed("stair 4 ; count 3 to 4 ;", 2, 2).many());
        due.is("strides taken count", 1, climbed("stair 4 ; count 3 to 3 ;", 1, 1).many());
        due.is("creaks trodden count", 1, climbed("stair 4 ; creak 1 ; creak 3 ; creaks 1 ;", 1, 1).many());
        due.is("great ones taken count", 1, climbed("stair 5 ; great 2 times 1 ;", 2).many());
        due.is("the last stride counts", 2, climbed("stair 5 ; bar 1 1 ;", 2).many());
        due.is("the last stride counts", 1, climbed("stair 5 ; bar 1 1 ;", 2, 1).many());
        due.is("more than an int", true, Due.on("stair 40 ; strides 1 2 3 4 5 6 ;").many() > Integer.MAX_VALUE);
    }

    /** "How many of these have just so many strides in all; NONE: others (0 to 40)." */
    private static void manyOf() {
        StairWays x = Due.on("stair 40 ;");
        due.is("-1", -1, x.manyOf(-1));
        due.is("0", 0, x.manyOf(0));
        due.is("19", 0, x.manyOf(19));
        due.is("20", 1, x.manyOf(20));
        due.is("39", 39, x.manyOf(39));
        due.is("40", 1, x.manyOf(40));
        due.is("41", -1, x.manyOf(41));
        for (int far : FAR) {
            due.is("manyOf " + far, -1, x.manyOf(far));
        }
        due.is("forty by ones, the first question", 1, Due.on("stair 40 ; strides 1 ;").manyOf(40));
        x = climbed("stair 4 ;", 1, 1);
        due.is("fewer than are taken", 0, x.manyOf(1));
        due.is("just those taken", 0, x.manyOf(2));
        due.is("one more", 1, x.manyOf(3));
        due.is("two more", 1, x.manyOf(4));
        x = climbed("stair 4 ;", 2, 2);
        due.is("at the top, those taken", 1, x.manyOf(2));
        due.is("at the top, one fewer", 0, x.manyOf(1));
        due.is("at the top, one more", 0, x.manyOf(3));
        x = Due.on("stair 4 ; count 3 to 3 ;");
        due.is("below count", 0, x.manyOf(2));
        due.is("as count tells", 3, x.manyOf(3));
        due.is("above count", 0, x.manyOf(4));
        x = Due.on("stair 4 ; foot left ;");
        due.is("of the other foot", 0, x.manyOf(2));
        due.is("of that foot", 3, x.manyOf(3));
        due.is("all of them still", 3, x.many());
    }

    /** "RANK among all from the foot; NONE: not at the top, not LAWFUL."; "ORDER of WAYS: by their first strides, the lesser one ahead, then by the next". */
    private static void rank() {
        due.is("at the foot", -1, Due.on("stair 4 ;").rank());
        due.is("below the top", -1, climbed("stair 4 ;", 1, 2).rank());
        int[][] order = {{1, 1, 1, 1}, {1, 1, 2}, {1, 2, 1}, {2, 1, 1}, {2, 2}};
        for (int i = 0; i < order.length; i++) {
            due.is("rank " + i, i, climbed("stair 4 ; strides 2 1 ;", order[i]).rank());
        }
        due.is("too few", -1, climbed("stair 4 ; count 3 to 4 ;", 2, 2).rank());
        due.is("the other foot", -1, climbed("stair 4 ; foot left ;", 2, 2).rank());
        due.is("unlawful ones are not counted", 0, climbed("stair 4 ; count 2 to 2 ;", 2, 2).rank());
        StairWays x = Due.on("stair 40 ; strides 1 2 3 4 5 6 ;");
        long all = x.many();
        for (int stride : new int[] {6, 6, 6, 6, 6, 6, 4}) {
            x.stride(stride);
        }
        due.is("the last of many", all - 1, x.rank());
        due.is("beyond an int", true, x.rank() > Integer.MAX_VALUE);
        int[] ones = new int[40];
        java.util.Arrays.fill(ones, 1);
        due.is("of forty strides", 0, climbed("stair 40 ;", ones).rank());
    }

    /** "The i-th stride (from the foot) of the WAY of a number; NONE: others, none such." */
    private static void nth() {
        StairWays x = climbed("stair 4 ;", 2);
        int[][] order = {{1, 1, 1, 1}, {1, 1, 2}, {1, 2, 1}, {2, 1, 1}, {2, 2}};
        for (int number = -1; number <= 5; number++) {
            for (int i = -1; i <= 5; i++) {
                boolean is = number >= 0 && number < 5 && i >= 0 && i < order[number].length;
                due.is("nth(" + number + ", " + i + ")", is ? order[number][i] : -1, x.nth(number, i));
            }
        }
        for (int far : FAR) {
            due.is("i " + far, -1, x.nth(0, far));
            due.is("number " + far, -1, x.nth(far, 0));
        }
        for (long far : new long[] {Long.MIN_VALUE, -(1L << 32), 1L << 32, (1L << 32) + 4, Long.MAX_VALUE}) {
            due.is("number " + far, -1, x.nth(far, 0));
        }
        due.is("no way", -1, Due.on(ODD).nth(0, 0));
        x = Due.on("stair 40 ; strides 1 2 3 4 5 6 ;");
        long all = x.many();
        due.is("the last one", 6, x.nth(all - 1, 0));
        due.is("its last stride", 4, x.nth(all - 1, 6));
        due.is("none behind its last stride", -1, x.nth(all - 1, 7));
        due.is("none behind the last one", -1, x.nth(all, 0));
        due.is("the first one's last stride", 1, x.nth(0, 39));
        due.is("none behind it", -1, x.nth(0, 40));
        due.is("forty strides, the first question", 1, Due.on("stair 40 ; strides 1 ;").nth(0, 39));
        due.is("a number beyond an int is not cut", 1, x.nth(1L << 32, 0));
        due.is("a number beyond an int is not cut", true, x.nth(1L << 32, 38) == -1);
    }

    private static int plainOr(StairWays x, int steps, int number, int thrown) {
        try {
            return x.plain(steps, number);
        } catch (NoSuchElementException e) {
            return thrown;
        }
    }

    /** "PLAIN ... (0 to 999,999,999) ... by a number (1 to 9999): the rest. NoSuchElementException: others." */
    private static void plain() {
        StairWays x = new StairWays();
        int[][] thrown = {{-1, 1}, {1_000_000_000, 1}, {0, 0}, {0, 10000}, {-1, 0}, {-1, 10000}, {999_999_999, 0}, {999_999_999, 10000}, {1_000_000_000, 9999},
            {5, -1}, {Integer.MIN_VALUE, 5}, {Integer.MAX_VALUE, 5}, {5, Integer.MIN_VALUE}, {5, Integer.MAX_VALUE}, {Integer.MIN_VALUE, Integer.MIN_VALUE}};
        for (int[] one : thrown) {
            due.is("plain(" + one[0] + ", " + one[1] + ") throws", -7, plainOr(x, one[0], one[1], -7));
        }
        due.is("no step, by 1", 0, plainOr(x, 0, 1, -7));
        due.is("no step, by 2: the empty row", 1, plainOr(x, 0, 2, -7));
        due.is("no step, by 9999", 1, plainOr(x, 0, 9999, -7));
        due.is("one step", 1, plainOr(x, 1, 9999, -7));
        due.is("the most by 1", 0, plainOr(x, 999_999_999, 1, -7));
        // the billionth Fibonacci number ends with 875
        due.is("the most by 1000", 875, plainOr(x, 999_999_999, 1000, -7));
        due.is("the most by 9999 is a rest", true, plainOr(x, 999_999_999, 9999, -7) >= 0);
        due.is("by 9999 just below", 6765, plainOr(x, 19, 9999, -7));
        due.is("by 9999 just beyond", 10946 - 9999, plainOr(x, 20, 9999, -7));
        due.is("by itself", 0, plainOr(x, 19, 6765, -7));
        due.is("by one more", 6765, plainOr(x, 19, 6766, -7));
    }

    /** "rows of told strides that come to just so many steps, nothing else being asked". */
    private static void plainStrides() {
        StairWays x = Due.on("stair 3 ; strides 12 ; landing 1 ; broken 2 ; bar 12 12 ; count 0 to 0 ; creaks 0 ; great 1 times 0 ; foot right ;");
        for (int steps = 0; steps <= 50; steps++) {
            due.is(steps + " by twelves", steps % 12 == 0 ? 1 : 0, plainOr(x, steps, 9999, -7));
        }
        due.is("the most by twelves", 0, plainOr(x, 999_999_999, 9999, -7));
        due.is("999,999,996 by twelves", 1, plainOr(x, 999_999_996, 9999, -7));
        x = Due.on("stair 3 ; strides 1 ;");
        due.is("the most by ones", 1, plainOr(x, 999_999_999, 9999, -7));
        x = Due.on("stair 3 ; strides 2 3 ;");
        int[] row = {1, 0, 1, 1, 1, 2, 2, 3, 4, 5, 7};
        for (int steps = 0; steps < row.length; steps++) {
            due.is(steps + " by twos and threes", row[steps], plainOr(x, steps, 9999, -7));
        }
    }

    /** "Of a CROWD (1 to 1,000,000,000,000) how many tread on a step (the foot: all; the top: who come there); NONE: others." */
    private static void crowd() {
        StairWays x = Due.on("stair 40 ;");
        long[] none = {0, -1, MOST_CROWD + 1, Long.MIN_VALUE, Long.MAX_VALUE, -MOST_CROWD, 1L << 32 << 20};
        for (long many : none) {
            due.is("crowd(" + many + ", 0)", -1, x.crowd(many, 0));
            due.is("crowd(" + many + ", 40)", -1, x.crowd(many, 40));
        }
        for (long many : new long[] {1, 2, MOST_CROWD - 1, MOST_CROWD}) {
            due.is("the foot: all of " + many, many, x.crowd(many, 0));
            due.is("the top: all of " + many, many, x.crowd(many, 40));
            due.is("step -1", -1, x.crowd(many, -1));
            due.is("step 41", -1, x.crowd(many, 41));
            due.is("no crowd in between", -1, x.crowd(0, 1));
        }
        for (int far : FAR) {
            due.is("step " + far, -1, x.crowd(1, far));
        }
        x = Due.on("stair 2 ; mood 0 ;");
        due.is("the foot: all, though none goes", 5, x.crowd(5, 0));
        due.is("none comes to the top", 0, x.crowd(5, 2));
        x = Due.on("stair 3 ; broken 1 ;");
        due.is("nobody treads on a broken step", 0, x.crowd(5, 1));
        due.is("all go over it", 5, x.crowd(5, 2));
    }

    /** "their number times its weight by all weights, cut, and who is left over with the first stride that has a weight; where no weight is above 0 they stay for good". */
    private static void crowdParts() {
        StairWays x = Due.on("stair 6 ; strides 6 5 4 3 2 1 ; mood ( stride = 2 ) * 2 + ( stride = 5 ) * 3 ;");
        // 5 weights in all: 2 of 5 with 2, 3 of 5 with 5
        long[][] twos = {{1, 1}, {2, 1}, {3, 2}, {4, 2}, {5, 2}, {6, 3}, {7, 3}, {9, 4}, {10, 4}};
        for (long[] one : twos) {
            due.is("with 2 of " + one[0], one[1], x.crowd(one[0], 2));
            due.is("with 5 of " + one[0], one[0] - one[1], x.crowd(one[0], 5));
            due.is("with 1, that has no weight", 0, x.crowd(one[0], 1));
        }
        due.is("with 5 of the most", MOST_CROWD / 5 * 3, x.crowd(MOST_CROWD, 5));
        due.is("with 5 of one less: cut", (MOST_CROWD - 1) * 3 / 5, x.crowd(MOST_CROWD - 1, 5));
        due.is("from 2 on by 2, for 5 is beyond the top", MOST_CROWD / 5 * 2, x.crowd(MOST_CROWD, 6));
        due.is("who is on 5 stays for good", 0, Due.on("stair 6 ; strides 5 ;").crowd(9, 6));
        x = Due.on("stair 12 ; strides 12 11 10 9 8 7 ; mood 9999 ;");
        due.is("six strides of 9 each: the first one has what is left", MOST_CROWD - MOST_CROWD * 9 / 54 * 5, x.crowd(MOST_CROWD, 7));
        due.is("the last one is cut", MOST_CROWD * 9 / 54, x.crowd(MOST_CROWD, 12));
        x = Due.on("stair 2 ; mood 0 - stride ;");
        due.is("weights below 0 are 0: all stay", 0, x.weary(9));
        x = Due.on("stair 2 ; mood 2 - stride - taken ;");
        due.is("with 1 only, then none", 9, x.weary(9));
        due.is("on 1", 9, x.crowd(9, 1));
        due.is("none comes", 0, x.crowd(9, 2));
    }

    /** "as many creaks and great ones (each where its line, creaks, great, is told)": who differ in these alone part apart only then. */
    private static void crowdGroups() {
        long[] together = {3, 2, 2, 3, 3, 2, 3};
        long[] apart = {3, 2, 2, 3, 3, 3, 3};
        StairWays x = Due.on("stair 6 ; creak 1 ;");
        StairWays y = Due.on("stair 6 ; creak 1 ; creaks 4 ;");
        for (int step = 0; step <= 6; step++) {
            due.is("without creaks, " + step, together[step], x.crowd(3, step));
            due.is("with creaks, " + step, apart[step], y.crowd(3, step));
        }
        due.is("without creaks", 15, x.weary(3));
        due.is("with creaks", 16, y.weary(3));
        long[] plain = {12, 4, 6, 9, 9, 9, 8, 12};
        long[] greats = {12, 4, 6, 9, 9, 9, 9, 12};
        x = Due.on("stair 7 ; strides 1 2 3 ;");
        y = Due.on("stair 7 ; strides 1 2 3 ; great 2 times 4 ;");
        for (int step = 0; step <= 7; step++) {
            due.is("without great, " + step, plain[step], x.crowd(12, step));
            due.is("with great, " + step, greats[step], y.crowd(12, step));
        }
        due.is("without great", 57, x.weary(12));
        due.is("with great", 58, y.weary(12));
    }

    /** "How many strides a CROWD takes, all together; NONE: others." */
    private static void weary() {
        StairWays x = Due.on("stair 40 ; strides 1 ;");
        due.is("0", -1, x.weary(0));
        due.is("1", 40, x.weary(1));
        due.is("the most", 40 * MOST_CROWD, x.weary(MOST_CROWD));
        due.is("one more", -1, x.weary(MOST_CROWD + 1));
        due.is("below", -1, x.weary(-1));
        due.is("least", -1, x.weary(Long.MIN_VALUE));
        due.is("most", -1, x.weary(Long.MAX_VALUE));
        due.is("as before", 40, x.weary(1));
    }

    /** "each has the weight of E (0 if it is below, 9 if above)"; "NONE: it MAY not be". */
    private static void weight() {
        for (int number = -3; number <= 12; number++) {
            int want = Math.max(0, Math.min(9, number));
            String mood = number < 0 ? "0 - " + -number : "" + number;
            due.is("weight of " + mood, want, Due.on("stair 3 ; mood " + mood + " ;").weight(1));
        }
        StairWays x = Due.on("stair 3 ; broken 1 ; mood 5 ;");
        due.is("on a broken step", -1, x.weight(1));
        due.is("one that may", 5, x.weight(2));
        due.is("not told", -1, x.weight(3));
        due.is("0", -1, x.weight(0));
        for (int far : FAR) {
            due.is("weight " + far, -1, x.weight(far));
        }
        x = climbed("stair 3 ; mood 5 ;", 2, 1);
        due.is("at the top", -1, x.weight(1));
        due.is("a weight of 0 is none of NONE", 0, Due.on("stair 3 ; mood 0 ;").weight(1));
    }

    /** "TWO (stairs of 24 steps at most)"; "NONE: more than 24 steps"; "who has come stays there"; "never on one step at once behind a beat". */
    private static void two() {
        due.is("one step: they pass", 1, Due.on("stair 1 ;").two());
        due.is("two steps by ones: they meet", 0, Due.on("stair 2 ; strides 1 ;").two());
        due.is("three steps by ones: they pass", 1, Due.on("stair 3 ; strides 1 ;").two());
        due.is("who has come stays", 4, Due.on("stair 3 ; strides 1 3 ;").two());
        // up 1 2 3, 1 3, 2 3, 3, down 2 1 0, 2 0, 1 0, 0: four of the sixteen pairs meet behind the first beat
        due.is("and stays in one way alone", 12, Due.on("stair 3 ; strides 1 2 3 ;").two());
        due.is("24 steps by ones: they meet", 0, Due.on("stair 24 ; strides 1 ;").two());
        due.is("23 steps by ones", 1, Due.on("stair 23 ; strides 1 ;").two());
        due.is("24 steps by twelves: they meet", 0, Due.on("stair 24 ; strides 12 ;").two());
        due.is("24 steps by eights", 1, Due.on("stair 24 ; strides 8 ;").two());
        due.is("25 steps", -1, Due.on("stair 25 ; strides 5 ;").two());
        due.is("40 steps", -1, Due.on("stair 40 ;").two());
        due.is("no way", 0, Due.on("stair 24 ; strides 7 ;").two());
        due.is("a broken step", 0, Due.on("stair 3 ; strides 1 ; broken 2 ;").two());
        due.is("nothing else is asked", 1, Due.on("stair 3 ; strides 1 ; count 0 to 0 ; bar 1 1 ; great 1 times 0 ; foot right ; creak 1 ; creaks 0 ;").two());
        due.is("a landing is none, either", 1, Due.on("stair 3 ; strides 3 ; landing 1 ;").two());
        StairWays x = climbed("stair 3 ; strides 1 ;", 1, 1);
        due.is("wherever one is by hand", 1, x.two());
    }

    /** "the first stride by which who is next wins (0: none does); NONE: one is at the top"; "who has none that MAY be has lost". */
    private static void game() {
        due.is("at the top", -1, climbed("stair 2 ;", 2).game());
        due.is("one below the top", 1, climbed("stair 2 ;", 1).game());
        due.is("two below: 2 wins, 1 does not", 2, Due.on("stair 2 ;").game());
        due.is("three below: none wins", 0, Due.on("stair 3 ;").game());
        due.is("no stride may be: lost", 0, climbed(ODD, 2, 2, 2, 2).game());
        due.is("into a dead end", 2, climbed(ODD, 2, 2, 2).game());
        due.is("the lesser one of two that win", 1, Due.on("stair 3 ; strides 3 2 1 ; broken 2 ; bar 1 2 ;").game());
        due.is("strides in all", 1, Due.on("stair 9 ; count 0 to 1 ;").game());
        due.is("no stride in all", 0, Due.on("stair 9 ; count 0 to 0 ;").game());
        due.is("the least of count and foot do not matter", 1, Due.on("stair 1 ; count 40 to 40 ; foot right ;").game());
        due.is("moods do not matter", 1, Due.on("stair 1 ; mood 0 ;").game());
        due.is("forty by ones", 0, Due.on("stair 40 ; strides 1 ;").game());
        due.is("thirty nine by ones", 1, Due.on("stair 39 ; strides 1 ;").game());
    }

    /** "(their steps as digits to the base of 64)"; "1: who is next wins; 0: the other one; NONE: others, a broken step". */
    private static void fourHeaps() {
        StairWays x = Due.on("stair 40 ; broken 7 ; strides 1 ;");
        due.is("four at the foot", 0, x.heaps(0));
        due.is("four at the top", 0, x.heaps(40 * (1 + 64 + 4096 + 262144)));
        for (int place = 0; place < 4; place++) {
            int base = 1 << 6 * place;
            due.is("digit 39 at " + place, 1, x.heaps(39 * base));
            due.is("digit 40 at " + place, 0, x.heaps(40 * base));
            due.is("digit 41 at " + place, -1, x.heaps(41 * base));
            due.is("digit 63 at " + place, -1, x.heaps(63 * base));
            due.is("a broken step at " + place, -1, x.heaps(7 * base));
        }
        due.is("64 is the second digit", x.heaps(1), x.heaps(64));
        due.is("-1", -1, x.heaps(-1));
        due.is("least", -1, x.heaps(Integer.MIN_VALUE));
        due.is("most", -1, x.heaps(Integer.MAX_VALUE));
        due.is("64 ^ 4 - 1", -1, x.heaps((1 << 24) - 1));
        due.is("64 ^ 4", -1, x.heaps(1 << 24));
        due.is("a sign bit and four digits", -1, x.heaps(Integer.MIN_VALUE + 1));
        x = Due.on("stair 6 ; strides 1 2 3 4 5 6 ;");
        // heaps are 6 - step: 1, 2, 3 together come to nothing
        due.is("1 2 3", 0, x.heaps(5 + 64 * 4 + 4096 * 3 + 262144 * 6));
        due.is("1 2 4", 1, x.heaps(5 + 64 * 4 + 4096 * 2 + 262144 * 6));
        due.is("1 2 4 and 7 is none", -1, x.heaps(7));
        due.is("one step beyond a stair of one", -1, new StairWays().heaps(2));
        due.is("the top of a stair of one", 0, new StairWays().heaps(1 + 64 + 4096 + 262144));
        due.is("one at the foot of it", 1, new StairWays().heaps(64 + 4096 + 262144));
    }

    /** "DUST (0 not told, 1 trodden, 2 not): true; false: others (steps 1 to one less than the top)." */
    private static void dust() {
        for (int top : new int[] {1, 2, 3, 40}) {
            StairWays x = Due.on("stair " + top + " ;");
            for (int what = -1; what <= 3; what++) {
                boolean is = what >= 0 && what <= 2;
                due.is("dust(-1, " + what + ")", false, x.dust(-1, what));
                due.is("dust(0, " + what + ")", false, x.dust(0, what));
                due.is("dust(1, " + what + ") of " + top, is && top > 1, x.dust(1, what));
                due.is("dust(top - 1, " + what + ") of " + top, is && top > 1, x.dust(top - 1, what));
                due.is("dust(top, " + what + ") of " + top, false, x.dust(top, what));
                due.is("dust(top + 1, " + what + ") of " + top, false, x.dust(top + 1, what));
            }
            for (int far : FAR) {
                due.is("dust(" + far + ", 1)", false, x.dust(far, 1));
                due.is("dust(1, " + far + ")", false, x.dust(1, far));
            }
        }
        StairWays x = Due.on("stair 3 ; broken 1 ; landing 2 ;");
        due.is("of a broken step", true, x.dust(1, 1));
        due.is("of a landing", true, x.dust(2, 2));
        due.is("a refused one leaves the old", false, x.dust(1, 3));
        due.is("as before", 1, x.step(1, 2));
    }

    /** "FIT: LAWFUL WAYS of one climber by which it is so." */
    private static void fit() {
        StairWays x = Due.on("stair 4 ;");
        due.is("nothing told", 5, x.fit());
        x.dust(1, 1);
        x.dust(2, 1);
        x.dust(3, 1);
        due.is("all trodden", 1, x.fit());
        x.dust(2, 2);
        due.is("1 and 3 only", 1, x.fit());
        x.dust(1, 2);
        due.is("3 alone", 0, x.fit());
        x.dust(3, 2);
        due.is("none trodden", 0, x.fit());
        x.dust(2, 1);
        due.is("2 alone", 1, x.fit());
        x = Due.on("stair 4 ; broken 2 ;");
        x.dust(2, 1);
        due.is("a broken step trodden", 0, x.fit());
        x.dust(2, 2);
        due.is("a broken step not trodden", 1, x.fit());
        x = Due.on("stair 4 ; landing 2 ;");
        x.dust(2, 2);
        due.is("a landing not trodden", 0, x.fit());
        x = climbed("stair 4 ; foot left ;", 2, 2);
        due.is("here", 0, x.many());
        due.is("from the foot, lawful ones alone", 3, x.fit());
        due.is("no way", 0, Due.on(ODD).fit());
        due.is("forty strides, the first question", 1, Due.on("stair 40 ; strides 1 ;").fit());
        x = Due.on("stair 40 ; strides 1 ;");
        x.dust(39, 1);
        due.is("the highest step that can be told", 1, x.fit());
        x.dust(39, 2);
        due.is("the highest step not trodden", 0, x.fit());
        x = Due.on("stair 4 ; strides 4 ;");
        due.is("one over all", 1, x.fit());
        x.dust(1, 1);
        due.is("none treads the first step", 0, x.fit());
        x.dust(1, 0);
        x.dust(3, 1);
        due.is("none treads the last step", 0, x.fit());
    }

    /** "FEWEST ... each by told strides on steps that are not broken and not told as not trodden (nothing else being asked)"; "NONE: none can". */
    private static void fewest() {
        StairWays x = Due.on("stair 40 ; strides 1 ;");
        due.is("nothing told", 0, x.fewest());
        for (int step = 1; step < 40; step++) {
            x.dust(step, 1);
        }
        due.is("one treads all", 1, x.fewest());
        x.dust(20, 2);
        due.is("one is not trodden", -1, x.fewest());
        x = Due.on("stair 4 ; broken 2 ;");
        x.dust(2, 1);
        due.is("a broken step trodden", -1, x.fewest());
        x.dust(2, 2);
        due.is("a broken step not trodden", 0, x.fewest());
        x.dust(1, 1);
        x.dust(3, 1);
        due.is("over it", 1, x.fewest());
        x = Due.on("stair 9 ; strides 4 5 ;");
        x.dust(4, 1);
        x.dust(5, 1);
        due.is("two", 2, x.fewest());
        x.dust(8, 1);
        due.is("8 leads not to the top", -1, x.fewest());
        x.dust(8, 0);
        x.dust(3, 1);
        due.is("none comes to 3", -1, x.fewest());
        x = Due.on("stair 13 ; strides 1 12 ; count 0 to 1 ; bar 1 12 ; great 1 times 0 ; creak 1 ; creaks 0 ; landing 6 ; foot right ;");
        x.dust(1, 1);
        x.dust(12, 1);
        due.is("nothing else is asked", 1, x.fewest());
        x.dust(5, 2);
        due.is("by 1 and 12, by 12 and 1", 2, x.fewest());
        x = Due.on("stair 40 ; strides 7 8 9 10 11 12 ;");
        for (int step = 7; step <= 12; step++) {
            x.dust(step, 1);
        }
        due.is("six", 6, x.fewest());
        due.is("no way and nothing trodden", 0, Due.on(ODD).fewest());
        x = Due.on(ODD);
        x.dust(2, 1);
        due.is("no way and one trodden", -1, x.fewest());
    }

    private static void stillIs(int above, int below, int c, int t, int other, int seconds) {
        StairWays x = new StairWays();
        String what = "still " + c + " " + t + " " + other + " " + seconds;
        due.is(what + ", above", above, x.still(c, t, other, seconds, 0));
        due.is(what + ", below", below, x.still(c, t, other, seconds, 1));
        due.is(what + ", the other one first", above, x.still(other, seconds, c, t, 0));
        due.is(what + ", the other one first", below, x.still(other, seconds, c, t, 1));
        due.is(what + ", what 2", -1, x.still(c, t, other, seconds, 2));
        due.is(what + ", what -1", -1, x.still(c, t, other, seconds, -1));
    }

    /** "STILL (c, t 1 to 999 each), what 0: above, 1: below, in lowest terms; NONE: others, no one number of steps, not above 0." */
    private static void still() {
        stillIs(56, 1, 20, 30, 32, 20);
        stillIs(22, 3, 5, 7, 6, 4);
        stillIs(1000, 1, 999, 1, 1, 999);
        stillIs(-1, -1, 1, 1, 999, 999);
        stillIs(-1, -1, 1, 999, 999, 999);
        stillIs(-1, -1, 999, 999, 999, 999);
        stillIs(-1, -1, 1, 1, 1, 1);
        stillIs(1, 1, 1, 1, 1, 2);
        stillIs(999, 1, 999, 998, 999, 999);
        stillIs(-1, -1, 1, 2, 3, 5);
        stillIs(1, 1, 1, 2, 1, 999);
        stillIs(1, 998, 1, 1, 998, 999);
        stillIs(997003, 1, 999, 998, 1, 999);
        // ( 999 * 999 - 1 * 2 ) / 997 is in lowest terms, for 997 does not go into 997999
        stillIs(997999, 997, 999, 2, 1, 999);
        int[][] edges = {{0, 30, 32, 20}, {1000, 30, 32, 20}, {20, 0, 32, 20}, {20, 1000, 32, 20}, {20, 30, 0, 20}, {20, 30, 1000, 20}, {20, 30, 32, 0}, {20, 30, 32, 1000}};
        for (int[] one : edges) {
            stillIs(-1, -1, one[0], one[1], one[2], one[3]);
        }
        for (int far : FAR) {
            if (far < 1 || far > 999) {
                stillIs(-1, -1, far, 30, 32, 20);
                stillIs(-1, -1, 20, far, 32, 20);
                due.is("what " + far, -1, new StairWays().still(20, 30, 32, 20, far));
            }
        }
    }

    /** "FAIR by a SEED (0 to 9999): the i-th stride from where one is; NONE: others, beyond, no WAY." */
    private static void fair() {
        StairWays x = Due.on("stair 5 ; strides 1 ;");
        for (int seed : new int[] {0, 1, 9998, 9999}) {
            due.is("seed " + seed, 1, x.fair(seed, 0));
            due.is("the last stride", 1, x.fair(seed, 4));
            due.is("beyond", -1, x.fair(seed, 5));
            due.is("i -1", -1, x.fair(seed, -1));
        }
        due.is("seed -1", -1, x.fair(-1, 0));
        due.is("seed 10000", -1, x.fair(10000, 0));
        for (int far : FAR) {
            if (far < 0 || far > 9999) {
                due.is("seed " + far, -1, x.fair(far, 0));
            }
            due.is("i " + far, -1, x.fair(0, far));
        }
        x.stride(1);
        x.stride(1);
        due.is("the last stride from 2", 1, x.fair(0, 2));
        due.is("beyond from 2", -1, x.fair(0, 3));
        due.is("at the top", -1, climbed("stair 2 ;", 2).fair(0, 0));
        due.is("no way", -1, Due.on(ODD).fair(0, 0));
        due.is("no way on so", -1, climbed("stair 3 ; foot left ;", 2).fair(0, 0));
        // seed 1: g is 1103527590, 2524885223 - 2147483648 = 377401575, 662824084: draws 16838, 5758, 10113
        long number = (16838L * 32768 + 5758) * 32768 + 10113;
        x = Due.on("stair 40 ; strides 1 2 3 4 5 6 ;");
        long all = x.many();
        for (int i = 0; i <= 40; i++) {
            due.is("fair(1, " + i + ")", x.nth(number % all, i), x.fair(1, i));
        }
        due.is("the number is beyond all", true, number > all && all > Integer.MAX_VALUE);
    }

    /** "CLIMB by a SEED (0 to 9999), what 0: where one is at last, 1: how many strides; NONE: others." */
    private static void climb() {
        StairWays x = Due.on("stair 40 ; strides 1 ;");
        for (int seed : new int[] {0, 1, 9998, 9999}) {
            due.is("where", 40, x.climb(seed, 0));
            due.is("strides", 40, x.climb(seed, 1));
            due.is("what 2", -1, x.climb(seed, 2));
            due.is("what -1", -1, x.climb(seed, -1));
        }
        for (int what = 0; what < 2; what++) {
            due.is("seed -1", -1, x.climb(-1, what));
            due.is("seed 10000", -1, x.climb(10000, what));
        }
        for (int far : FAR) {
            if (far < 0 || far > 9999) {
                due.is("seed " + far, -1, x.climb(far, 0));
            }
            due.is("what " + far, -1, x.climb(0, far));
        }
        x = Due.on("stair 9 ; mood 0 ;");
        due.is("no weight at all: at the foot", 0, x.climb(7, 0));
        due.is("no stride", 0, x.climb(7, 1));
        x = Due.on("stair 9 ; mood step < 4 ;");
        due.is("till no weight is above 0", true, x.climb(7, 0) == 4 || x.climb(7, 0) == 5);
        x = climbed("stair 3 ; strides 1 ;", 1, 1);
        due.is("from the foot, wherever one is", 3, x.climb(0, 1));
        due.is("here", 1, x.many());
        due.is("from the foot, wherever one is", 3, x.climb(0, 1));
        // seed 1 draws 16838, 5758, 10113, 17515: below 3 it is 2, 1, 0, 1
        x = Due.on("stair 40 ; strides 12 1 ; mood 1 + ( stride = 12 ) ; count 0 to 4 ;");
        due.is("the weights so far are more than the draw: 12 12 1 12", 37, x.climb(1, 0));
        due.is("four", 4, x.climb(1, 1));
        x = Due.on("stair 40 ; strides 12 1 ; mood 2 - ( stride = 12 ) ; count 0 to 4 ;");
        due.is("not if they are just as much: 12 1 1 1", 15, x.climb(1, 0));
    }

    /** "g becomes (g * 1103515245 + 12345) modulo 2147483648 ...; it is g / 65536, cut, modulo m": for each SEED there is. */
    private static void draws() {
        StairWays x = null;
        StairWays y = null;
        for (int seed = 0; seed <= 9999; seed++) {
            if (seed % 250 == 0) {
                x = Due.on("stair 40 ; strides 12 11 10 9 8 7 ; mood 9 ; count 0 to 1 ;");
                y = Due.on("stair 12 ; strides 1 2 3 4 5 6 ;");
            }
            long[] g = {seed};
            due.is("climb by the seed " + seed, 7 + Model.draw(g, 54) / 9, x.climb(seed, 0));
            g[0] = seed;
            long number = Model.draw(g, 32768) * 32768L * 32768L;
            number += Model.draw(g, 32768) * 32768L;
            number += Model.draw(g, 32768);
            due.is("fair by the seed " + seed, y.nth(number % 1936, 0), y.fair(seed, 0));
        }
        due.is("so many ways are there", 1936, y.many());
    }

    /** "MARKS 0 to 3 hold where one is by hand (how one came there), the dust"; "false: none such, nothing is on it (back)". */
    private static void marks() {
        StairWays x = Due.on("stair 40 ;");
        for (int mark = -1; mark <= 4; mark++) {
            due.is("nothing on " + mark, false, x.mark(mark, true));
        }
        due.is("no mark -1", false, x.mark(-1, false));
        due.is("no mark 4", false, x.mark(4, false));
        for (int far : FAR) {
            due.is("no mark " + far, false, x.mark(far, false));
            due.is("no mark " + far, false, x.mark(far, true));
        }
        due.is("lay 0", true, x.mark(0, false));
        due.is("nothing on 3", false, x.mark(3, true));
        for (int i = 0; i < 40; i++) {
            x.stride(1);
        }
        x.dust(39, 1);
        due.is("lay 3 at the top", true, x.mark(3, false));
        due.is("back to 0", true, x.mark(0, true));
        due.is("at the foot", 0, x.count(1));
        due.is("no dust there", 0, x.step(39, 2));
        due.is("to 3", true, x.mark(3, true));
        due.is("at the top", 40, x.count(1));
        due.is("by forty", 1, x.taken(39));
        due.is("the dust", 1, x.step(39, 2));
        x.back(false);
        due.is("laid anew", true, x.mark(3, false));
        x.back(true);
        due.is("to 3", true, x.mark(3, true));
        due.is("the old one is gone", 39, x.count(1));
        due.is("nothing on 1", false, x.mark(1, true));
        due.is("nothing on 2", false, x.mark(2, true));
    }

    /** "What 0: steps, 1: where one is, ... 7: signs on the TAPE. NONE for another what." */
    private static void counts() {
        StairWays x = climbed("stair 40 ; strides 1 2 3 4 5 12 ; creak 1 ; creak 3 ; great 2 times 2 ; bar 9 9 ;", 1, 2, 12);
        Due.feed(x, "?".repeat(1001));
        int[] want = {40, 15, 3, 2, 2, 6, 1, 1000};
        for (int what = 0; what < 8; what++) {
            due.is("count " + what, want[what], x.count(what));
        }
        due.is("count -1", -1, x.count(-1));
        due.is("count 8", -1, x.count(8));
        for (int far : FAR) {
            due.is("count " + far, -1, x.count(far));
        }
    }
}
