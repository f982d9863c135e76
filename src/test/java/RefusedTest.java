import java.util.ArrayList;
import java.util.List;
import java.util.NoSuchElementException;
import java.util.function.Consumer;
import java.util.function.Supplier;

/**
 * A refused call changes nothing, and no question does: of two objects made by the same calls one is
 * asked besides, and all that can be seen of both is the same then.
 */
public final class RefusedTest {
    private static final Due due = new Due("RefusedTest");
    private static final int[] FAR = {Integer.MIN_VALUE, -1, 41, 64, 10000, Integer.MAX_VALUE};

    public static void main(String[] args) {
        List<Supplier<StairWays>> scenes = List.of(StairWays::new, RefusedTest::midway, RefusedTest::atTheTop, RefusedTest::deadEnd, RefusedTest::fullTape);
        for (int i = 0; i < scenes.size(); i++) {
            String want = Sight.of(scenes.get(i).get());
            for (Consumer<StairWays> call : calls()) {
                StairWays x = scenes.get(i).get();
                call.accept(x);
                due.is("scene " + i + " stays as it was", true, Sight.of(x).equals(want));
            }
            StairWays x = scenes.get(i).get();
            for (Consumer<StairWays> call : calls()) {
                call.accept(x);
            }
            due.is("scene " + i + " stays as it was behind all of them", true, Sight.of(x).equals(want));
        }
        sightSees();
        due.end();
    }

    private static StairWays midway() {
        StairWays x = Due.on("stair 9 ; strides 1 2 3 ; broken 4 ; creak 2 ; creaks 2 ; bar 3 3 ; great 3 times 2 ; mood stride + last ;");
        x.dust(5, 1);
        x.stride(2);
        x.mark(1, false);
        x.stride(1);
        x.dust(6, 2);
        x.mark(2, false);
        x.stride(2);
        Due.feed(x, "stair 4 ; strides 4 ;");
        return x;
    }

    private static StairWays atTheTop() {
        StairWays x = Due.on("stair 40 ; strides 12 4 ; landing 12 ; count 4 to 4 ; mood taken + 1 ;");
        for (int stride : new int[] {12, 12, 12, 4}) {
            x.stride(stride);
            x.mark(x.count(2) - 1, false);
            x.dust(x.count(2), 1);
        }
        return x;
    }

    private static StairWays deadEnd() {
        StairWays x = Due.on("stair 9 ; strides 2 ;");
        for (int i = 0; i < 4; i++) {
            x.stride(2);
        }
        x.dust(8, 1);
        Due.feed(x, "stair");
        return x;
    }

    private static StairWays fullTape() {
        StairWays x = new StairWays();
        Due.feed(x, "stair 7 ;" + " ".repeat(991));
        return x;
    }

    /** Refused wherever one is in these scenes, and questions. */
    private static List<Consumer<StairWays>> calls() {
        List<Consumer<StairWays>> calls = new ArrayList<>();
        for (int far : FAR) {
            calls.add(x -> due.is("stride " + far, false, x.stride(far)));
            calls.add(x -> due.is("may " + far, false, x.may(far)));
            calls.add(x -> due.is("weight " + far, -1, x.weight(far)));
            calls.add(x -> due.is("step " + far, -1, x.step(far, 2)));
            calls.add(x -> due.is("dust of " + far, false, x.dust(far, 1)));
            calls.add(x -> due.is("dust by " + far, false, x.dust(1, far)));
            calls.add(x -> due.is("lay " + far, false, x.mark(far, false)));
            calls.add(x -> due.is("go to " + far, false, x.mark(far, true)));
            calls.add(x -> due.is("taken " + far, -1, x.taken(far)));
            calls.add(x -> due.is("manyOf " + far, -1, x.manyOf(far)));
            calls.add(x -> due.is("nth " + far, -1, x.nth(far, far)));
            calls.add(x -> due.is("crowd at " + far, -1, x.crowd(1, far)));
            calls.add(x -> due.is("still " + far, -1, x.still(20, 30, 32, 20, far)));
            calls.add(x -> due.is("fair " + far, -1, x.fair(0, far)));
            calls.add(x -> due.is("climb " + far, -1, x.climb(0, far)));
            calls.add(x -> due.is("count " + far, -1, x.count(far)));
        }
        for (long many : new long[] {Long.MIN_VALUE, -1, 0, 1_000_000_000_001L, Long.MAX_VALUE}) {
            calls.add(x -> due.is("crowd " + many, -1, x.crowd(many, 0)));
            calls.add(x -> due.is("weary " + many, -1, x.weary(many)));
        }
        for (int[] wrong : new int[][] {{-1, 5}, {1_000_000_000, 5}, {5, 0}, {5, 10000}}) {
            calls.add(x -> due.is("plain throws", true, isThrown(x, wrong[0], wrong[1])));
        }
        calls.add(x -> due.is("stride 0", false, x.stride(0)));
        calls.add(x -> due.is("stride 5", false, x.stride(5)));
        calls.add(x -> due.is("dust of the foot", false, x.dust(0, 1)));
        calls.add(x -> due.is("dust of the top", false, x.dust(x.count(0), 1)));
        calls.add(x -> due.is("heaps", -1, x.heaps(1 << 24)));
        calls.add(x -> due.is("seed", -1, x.fair(10000, 0)));
        calls.add(x -> due.is("seed", -1, x.climb(-1, 0)));
        calls.add(x -> due.is("still", 1, x.still(20, 30, 32, 20, 1)));
        calls.add(x -> due.is("none comes", x.count(7), x.feed(0, -1, 0x7F1F)));
        questions(calls);
        return calls;
    }

    private static void questions(List<Consumer<StairWays>> calls) {
        calls.add(x -> due.is("back from the foot", x.count(2) > 0, x.count(2) > 0 || x.back(false)));
        calls.add(x -> due.is("down from the foot", x.count(2) > 0, x.count(2) > 0 || x.back(true)));
        calls.add(x -> due.is("strides at the top", false, x.count(1) == x.count(0) && (x.stride(12) || x.stride(4) || x.stride(1))));
        calls.add(x -> x.may(1));
        calls.add(x -> x.may(12));
        calls.add(StairWays::lawful);
        calls.add(StairWays::many);
        calls.add(StairWays::rank);
        calls.add(StairWays::two);
        calls.add(StairWays::game);
        calls.add(StairWays::fit);
        calls.add(StairWays::fewest);
        calls.add(x -> x.nth(0, 0));
        calls.add(x -> x.nth(0, 2));
        calls.add(x -> x.fair(5, 0));
        calls.add(x -> x.fair(5, 1));
        calls.add(x -> x.climb(5, 0));
        calls.add(x -> x.crowd(77, 1));
        calls.add(x -> x.weary(78));
        calls.add(x -> x.plain(5, 7));
        calls.add(x -> x.heaps(0));
        for (int strides = 0; strides <= 40; strides += 8) {
            int number = strides;
            calls.add(x -> x.manyOf(number));
        }
    }

    private static boolean isThrown(StairWays x, int steps, int number) {
        try {
            x.plain(steps, number);
            return false;
        } catch (NoSuchElementException e) {
            return true;
        }
    }

    /** What is not refused is seen: else the test above would hold nothing. */
    private static void sightSees() {
        String want = Sight.of(midway());
        List<Consumer<StairWays>> changes = List.of(x -> x.stride(1), x -> x.back(false), x -> x.back(true), x -> x.dust(3, 1), x -> x.dust(6, 0),
            x -> x.mark(0, false), x -> x.mark(2, false), x -> x.mark(1, true), x -> x.feed(0x20, 0, 0), x -> x.feed(0x21, 0, 0), StairWays::stair);
        for (int i = 0; i < changes.size(); i++) {
            StairWays x = midway();
            changes.get(i).accept(x);
            due.is("change " + i + " is seen", false, Sight.of(x).equals(want));
        }
    }
}
