/** Promises 4 to 9, 17, 20, 21, 27, 28: by hand, with the edges that the document names and wrong inputs. */
public final class HandTest {
    private static final Due due = new Due("HandTest");
    private static final int[] STRANGE = {Integer.MIN_VALUE, -64, -1, 0, 13, 33, 64, Integer.MAX_VALUE};

    public static void main(String[] args) {
        steps();
        may();
        limits();
        backAndTaken();
        lawful();
        weights();
        heaps();
        dust();
        marks();
        counts();
        due.end();
    }

    private static void steps() {
        StairWays x = Due.on("stair 5 ; broken 1 ; creak 2 ; landing 3 ;");
        int[] kinds = {0, 1, 2, 3, 0, 0};
        for (int step = 0; step <= 5; step++) {
            due.is("kind of " + step, kinds[step], x.step(step, 0));
        }
        // 5: 0; 4: 1; 3: 2; 2: the least that is neither 2 nor 1; 0: the least that is not 0
        int[] due5 = {1, -1, 0, 2, 1, 0};
        for (int step = 0; step <= 5; step++) {
            due.is("heap of " + step, due5[step], x.step(step, 1));
        }
        for (int what = 0; what < 3; what++) {
            due.is("step -1", -1, x.step(-1, what));
            due.is("step 6", -1, x.step(6, what));
            due.is("step least", -1, x.step(Integer.MIN_VALUE, what));
            due.is("step most", -1, x.step(Integer.MAX_VALUE, what));
        }
        due.is("what 3", -1, x.step(1, 3));
        due.is("what -1", -1, x.step(1, -1));
    }

    private static void may() {
        StairWays x = Due.on("stair 9 ; strides 1 2 3 4 ; broken 2 ; landing 4 ; bar 1 2 ;");
        due.is("1", true, x.may(1));
        due.is("on a broken step", false, x.may(2));
        due.is("3", true, x.may(3));
        due.is("onto the landing", true, x.may(4));
        due.is("stride 1", true, x.stride(1));
        due.is("barred behind", false, x.may(2));
        due.is("over the landing", false, x.may(4));
        due.is("onto the landing by 3", true, x.stride(3));
        due.is("from the landing", true, x.stride(4));
        due.is("not beyond the top", false, x.may(2));
        due.is("just the top", true, x.stride(1));
        for (int stride : STRANGE) {
            due.is("may " + stride, false, x.may(stride));
            due.is("stride " + stride, false, x.stride(stride));
            due.is("weight " + stride, -1, x.weight(stride));
        }
        due.is("where", 9, x.count(1));
        x = Due.on("stair 40 ; strides 12 1 ; bar 12 12 ; bar 1 12 ;");
        due.is("at first nothing is ahead", true, x.stride(12));
        due.is("barred behind 12", false, x.may(12));
        due.is("1 behind 12", true, x.stride(1));
        due.is("barred behind 1", false, x.may(12));
        x = Due.on("stair 9 ; strides 5 ;");
        due.is("not told", false, x.stride(1));
        due.is("told", true, x.stride(5));
        due.is("none fits", false, x.stride(5));
    }

    private static void limits() {
        StairWays x = Due.on("stair 9 ; creak 1 ; creak 2 ; creak 4 ; creaks 2 ; great 2 times 1 ; count 4 to 5 ;");
        due.is("creak 1", true, x.stride(1));
        due.is("creak 2", true, x.stride(1));
        due.is("creaks", 2, x.count(3));
        due.is("a third creak", false, x.may(2));
        due.is("no creak", true, x.stride(1));
        due.is("great over the creak", true, x.stride(2));
        due.is("greats", 1, x.count(4));
        due.is("no second great one", false, x.may(2));
        due.is("fifth", true, x.stride(1));
        due.is("no sixth", false, x.may(1));
        due.is("no way goes on so", 0, x.many());
        due.is("none wins", 0, x.game());
        x = Due.on("stair 4 ; creak 1 ; creak 2 ; creak 3 ;");
        x.stride(1);
        x.stride(1);
        due.is("as often as one likes", true, x.stride(1));
        due.is("all count", 3, x.count(3));
        due.is("without great none is", 0, x.count(4));
        x = Due.on("stair 4 ; creak 2 ; creaks 0 ;");
        due.is("creaks 0", false, x.may(2));
        x = Due.on("stair 4 ; great 2 times 0 ;");
        due.is("times 0", false, x.may(2));
        due.is("less than great", true, x.may(1));
        x = Due.on("stair 4 ; count 0 to 0 ;");
        due.is("count to 0", false, x.may(1));
        due.is("none", 0, x.many());
    }

    private static void backAndTaken() {
        StairWays x = Due.on("stair 9 ; creak 3 ; great 2 times 4 ; bar 2 1 ;");
        due.is("at the foot", false, x.back(true));
        due.is("at the foot", false, x.back(false));
        x.stride(1);
        x.stride(2);
        x.stride(2);
        due.is("barred", false, x.may(1));
        due.is("taken 0", 1, x.taken(0));
        due.is("taken 2", 2, x.taken(2));
        due.is("taken 3", -1, x.taken(3));
        due.is("taken -1", -1, x.taken(-1));
        due.is("taken most", -1, x.taken(Integer.MAX_VALUE));
        due.is("greats", 2, x.count(4));
        due.is("creaks", 1, x.count(3));
        due.is("a stride back", true, x.back(false));
        due.is("where", 3, x.count(1));
        due.is("greats", 1, x.count(4));
        due.is("a stride back", true, x.back(false));
        due.is("creaks", 0, x.count(3));
        due.is("last is 1 again", true, x.may(1));
        due.is("taken 1", -1, x.taken(1));
        x.stride(2);
        due.is("down", true, x.back(true));
        for (int what = 1; what < 5; what++) {
            due.is("at the foot, count " + what, 0, x.count(what));
        }
        due.is("down again", false, x.back(true));
    }

    private static void lawful() {
        StairWays x = Due.on("stair 4 ; foot left ; count 3 to 4 ;");
        due.is("at the foot", -1, x.lawful());
        x.stride(1);
        x.stride(1);
        due.is("midway", -1, x.lawful());
        x.stride(2);
        due.is("three, left", 0, x.lawful());
        due.is("rank", 0, x.rank());
        x.back(false);
        x.stride(1);
        x.stride(1);
        due.is("four, right", 1, x.lawful());
        due.is("no rank", -1, x.rank());
        x.back(true);
        x.stride(2);
        x.stride(2);
        due.is("two: the foot is another one, too", 1, x.lawful());
        x = Due.on("stair 4 ; foot right ; count 3 to 4 ;");
        x.stride(2);
        x.stride(2);
        due.is("two: too few", 2, x.lawful());
        due.is("no rank", -1, x.rank());
        due.is("none", 0, x.many());
        x = Due.on("stair 1 ; foot left ;");
        x.stride(1);
        due.is("one, left", 0, x.lawful());
        x = Due.on("stair 1 ; foot right ;");
        x.stride(1);
        due.is("one, right", 1, x.lawful());
    }

    private static void weigh(String mood, int want) {
        StairWays x = Due.on("stair 9 ; mood " + mood + " ;");
        x.stride(2);
        x.stride(1);
        due.is("weight of 2 by " + mood, want, x.weight(2));
    }

    /** The stride that might be next is 2, the last one 1, the step 3, two are taken. */
    private static void weights() {
        weigh("stride", 2);
        weigh("last", 1);
        weigh("step", 3);
        weigh("taken", 2);
        weigh("9", 9);
        weigh("10", 9);
        weigh("0 - 1", 0);
        weigh("7 - 2 - 1", 4);
        weigh("2 + 3 * 2", 8);
        weigh("( 1 + 2 ) * 2", 6);
        weigh("2 < 3", 1);
        weigh("3 < 3", 0);
        weigh("3 = 3", 1);
        weigh("3 = 2 + 1", 1);
        weigh("1 + 2 = 3", 1);
        weigh("not 7", 0);
        weigh("not 0", 1);
        weigh("not 0 + 3", 4);
        weigh("not not 7", 1);
        weigh("7 and 8", 1);
        weigh("7 and 0", 0);
        weigh("0 or 8", 1);
        weigh("0 or 0", 0);
        weigh("1 or 1 and 0", 0);
        weigh("0 and 0 or 1", 1);
        weigh("1 or ( 1 and 0 )", 1);
        weigh("5 and 3 < 4", 1);
        // 6000 * 6000 * 60 is beyond an int and wraps to a number below 0, 8192 * 8192 * 64 to 0
        weigh("6000 * 6000 * 60", 0);
        weigh("8192 * 8192 * 64 + 3", 3);
        weigh("0 - 6000 * 6000 * 60", 9);
        weigh("step * 3 - taken * 2 - last", 4);
        weigh("( ( ( ( 4 ) ) ) )", 4);
        due.is("without a line", 1, Due.on("stair 9 ;").weight(2));
    }

    private static void heaps() {
        StairWays x = Due.on("stair 40 ; broken 5 ;");
        due.is("digits", 1, x.heaps(39 + 64 * (40 + 64 * (40 + 64 * 40))));
        due.is("digits", 1, x.heaps(40 + 64 * (40 + 64 * (40 + 64 * 39))));
        due.is("two alike", 0, x.heaps(39 + 64 * (40 + 64 * (40 + 64 * 39))));
        due.is("beyond", -1, x.heaps(41));
        due.is("beyond", -1, x.heaps(41 << 18));
        due.is("broken", -1, x.heaps(5 << 12));
        due.is("below", -1, x.heaps(Integer.MIN_VALUE));
        due.is("a fifth digit", -1, x.heaps(1 << 24));
        due.is("most", -1, x.heaps(Integer.MAX_VALUE));
    }

    private static void dust() {
        StairWays x = Due.on("stair 3 ;");
        due.is("foot", false, x.dust(0, 1));
        due.is("top", false, x.dust(3, 1));
        due.is("what 3", false, x.dust(1, 3));
        due.is("what -1", false, x.dust(1, -1));
        due.is("least", false, x.dust(Integer.MIN_VALUE, 1));
        due.is("most", false, x.dust(Integer.MAX_VALUE, 1));
        due.is("1", true, x.dust(1, 1));
        due.is("2", true, x.dust(2, 2));
        due.is("fit", 1, x.fit());
        due.is("many is without dust", 3, x.many());
        due.is("dust of 1", 1, x.step(1, 2));
        due.is("dust of 2", 2, x.step(2, 2));
        due.is("not told again", true, x.dust(2, 0));
        due.is("dust of 2", 0, x.step(2, 2));
        due.is("fit", 2, x.fit());
        x.stride(2);
        due.is("fit is from the foot", 2, x.fit());
        x.dust(1, 2);
        x.dust(2, 2);
        due.is("fit none", 0, x.fit());
        due.is("nothing trodden: none is needed", 0, x.fewest());
        due.is("none told of one step", false, new StairWays().dust(1, 1));
    }

    private static void marks() {
        StairWays x = Due.on("stair 9 ; creak 2 ; great 2 times 3 ;");
        for (int mark : new int[] {-1, 4, Integer.MIN_VALUE, Integer.MAX_VALUE}) {
            due.is("no mark " + mark, false, x.mark(mark, false));
            due.is("no mark " + mark, false, x.mark(mark, true));
        }
        x.stride(2);
        x.dust(4, 1);
        due.is("lay 3", true, x.mark(3, false));
        x.stride(1);
        x.dust(4, 2);
        x.dust(5, 1);
        due.is("lay 0", true, x.mark(0, false));
        x.back(true);
        due.is("nothing on 1", false, x.mark(1, true));
        due.is("go to 3", true, x.mark(3, true));
        due.is("where", 2, x.count(1));
        due.is("strides", 1, x.count(2));
        due.is("creaks", 1, x.count(3));
        due.is("greats", 1, x.count(4));
        due.is("how", 2, x.taken(0));
        due.is("dust", 1, x.step(4, 2));
        due.is("dust", 0, x.step(5, 2));
        due.is("go to 0", true, x.mark(0, true));
        due.is("where", 3, x.count(1));
        due.is("how", 1, x.taken(1));
        due.is("dust", 2, x.step(4, 2));
        due.is("back from there", true, x.back(false));
        due.is("where", 2, x.count(1));
        due.is("it stays", true, x.mark(0, true));
        due.is("where", 3, x.count(1));
        due.is("a fault", 1, x.stair());
        due.is("leaves it", true, x.mark(3, true));
        due.is("a stair", 0, Due.read(x, "stair 9 ;"));
        due.is("takes it", false, x.mark(3, true));
        due.is("takes it", false, x.mark(0, true));
    }

    private static void counts() {
        StairWays x = Due.on("stair 9 ; strides 1 3 5 ; bar 1 1 ; bar 7 7 ;");
        Due.feed(x, "abc");
        x.stride(3);
        int[] want = {9, 3, 1, 0, 0, 3, 2, 3};
        for (int what = 0; what < 8; what++) {
            due.is("count " + what, want[what], x.count(what));
        }
        for (int what : new int[] {-1, 8, Integer.MIN_VALUE, Integer.MAX_VALUE}) {
            due.is("count " + what, -1, x.count(what));
        }
    }
}
