import java.util.ArrayList;
import java.util.Arrays;
import java.util.List;
import java.util.Random;

/** All promises on stairs drawn by chance: runs of calls, each answer held against the plain model's. */
public final class ModelTest {
    private static final Due due = new Due("ModelTest");
    private static final int RUNS = 1500;

    public static void main(String[] args) {
        for (int run = 0; run < RUNS; run++) {
            new ModelTest(run).play();
        }
        due.end();
    }

    private final int run;
    private final Random chance;
    private final StairWays x = new StairWays();
    private Model model;
    private List<List<Integer>> markedWays;
    private List<int[]> markedDusts;

    private ModelTest(int run) {
        this.run = run;
        chance = new Random(run);
    }

    private void play() {
        tellAnew();
        for (int call = 0; call < 120; call++) {
            if (chance.nextInt(60) == 0) {
                tellAnew();
            }
            switch (chance.nextInt(8)) {
                case 0:
                case 1:
                case 2:
                    goOn();
                    break;
                case 3:
                    changeOthers();
                    break;
                default:
                    ask(chance.nextInt(20));
                    break;
            }
        }
    }

    private void is(String what, long want, long got) {
        due.is("run " + run + " on '" + model.text + "' by " + model.hand + " dust " + Arrays.toString(model.dusts) + ": " + what, want, got);
    }

    private void is(String what, boolean want, boolean got) {
        is(what, want ? 1 : 0, got ? 1 : 0);
    }

    private void tellAnew() {
        model = new Model(chance, 11);
        markedWays = new ArrayList<>(Arrays.asList(null, null, null, null));
        markedDusts = new ArrayList<>(Arrays.asList(null, null, null, null));
        Due.feed(x, model.text);
        is("signs", Math.min(1000, model.text.length()), x.count(7));
        is("stair()", 0, x.stair());
        is("steps", model.top, x.count(0));
        is("strides", model.strides.size(), x.count(5));
        is("bars", model.bars.size(), x.count(6));
    }

    private void goOn() {
        if (chance.nextInt(6) == 0) {
            boolean all = chance.nextInt(3) == 0;
            is("back(" + all + ")", !model.hand.isEmpty(), x.back(all));
            int left = all ? 0 : Math.max(0, model.hand.size() - 1);
            model.hand = new ArrayList<>(model.hand.subList(0, left));
            return;
        }
        int stride = chance.nextInt(8) == 0 ? chance.nextInt(16) - 2 : model.strides.get(chance.nextInt(model.strides.size()));
        boolean may = model.may(model.hand, stride);
        is("may(" + stride + ")", may, x.may(stride));
        is("weight(" + stride + ")", model.weight(model.hand, stride), x.weight(stride));
        is("stride(" + stride + ")", may, x.stride(stride));
        if (may) {
            model.hand = Model.with(model.hand, stride);
        }
    }

    private void changeOthers() {
        int mark = chance.nextInt(6) - 1;
        boolean isMark = mark >= 0 && mark < 4;
        switch (chance.nextInt(4)) {
            case 0:
                is("mark(" + mark + ", false)", isMark, x.mark(mark, false));
                if (isMark) {
                    markedWays.set(mark, model.hand);
                    markedDusts.set(mark, model.dusts.clone());
                }
                break;
            case 1:
                boolean laid = isMark && markedWays.get(mark) != null;
                is("mark(" + mark + ", true)", laid, x.mark(mark, true));
                if (laid) {
                    model.hand = markedWays.get(mark);
                    System.arraycopy(markedDusts.get(mark), 0, model.dusts, 0, model.dusts.length);
                }
                break;
            default:
                int step = chance.nextInt(model.top + 3) - 1;
                int what = chance.nextInt(10) == 0 ? chance.nextInt(6) - 2 : chance.nextInt(3);
                boolean can = step > 0 && step < model.top && what >= 0 && what <= 2;
                is("dust(" + step + ", " + what + ")", can, x.dust(step, what));
                if (can) {
                    model.dusts[step] = what;
                }
                break;
        }
    }

    private void ask(int which) {
        int some = chance.nextInt(model.top + 4) - 2;
        switch (which) {
            case 0:
                for (int step = -1; step <= model.top + 1; step++) {
                    boolean is = step >= 0 && step <= model.top;
                    is("step(" + step + ", 0)", is ? model.kinds[step] : -1, x.step(step, 0));
                    is("step(" + step + ", 1)", model.heap(step), x.step(step, 1));
                    is("step(" + step + ", 2)", is ? model.dusts[step] : -1, x.step(step, 2));
                    is("step(" + step + ", 3)", -1, x.step(step, 3));
                    is("step(" + step + ", -1)", -1, x.step(step, -1));
                }
                break;
            case 1:
                is("taken(" + some + ")", some >= 0 && some < model.hand.size() ? model.hand.get(some) : -1, x.taken(some));
                break;
            case 2:
                is("lawful()", model.lawful(), x.lawful());
                break;
            case 3:
                is("many()", model.many(-1), x.many());
                break;
            case 4:
                for (int number = 0; number <= 12; number++) {
                    is("manyOf(" + number + ")", model.many(number), x.manyOf(number));
                }
                break;
            case 5:
                is("rank()", model.rank(), x.rank());
                break;
            case 6:
                long number = chance.nextInt(model.lawfuls().size() + 3) - 1;
                is("nth(" + number + ", " + some + ")", model.nth(number, some), x.nth(number, some));
                break;
            case 7:
                askPlain();
                break;
            case 8:
            case 9:
                askCrowd();
                break;
            case 10:
                is("two()", model.top <= 8 ? model.two() : x.two(), x.two());
                break;
            case 11:
            case 12:
                is("game()", model.game(model.hand), x.game());
                break;
            case 13:
                int steps = chance.nextInt(model.top + 1) + 64 * (chance.nextInt(model.top + 1)
                    + 64 * (chance.nextInt(model.top + 1) + 64 * (chance.nextInt(model.top + 1))));
                steps += chance.nextInt(9) == 0 ? chance.nextInt(1 << 25) : 0;
                is("heaps(" + steps + ")", model.heaps(steps), x.heaps(steps));
                break;
            case 14:
                is("fit()", model.fit(), x.fit());
                break;
            case 15:
                is("fewest()", model.fewest(), x.fewest());
                break;
            case 16:
                int seed = chance.nextInt(9) == 0 ? chance.nextInt(30000) - 10000 : chance.nextInt(10000);
                is("fair(" + seed + ", " + some + ")", model.fair(seed, some), x.fair(seed, some));
                break;
            case 17:
            case 18:
                int other = chance.nextInt(9) == 0 ? chance.nextInt(30000) - 10000 : chance.nextInt(10000);
                int what = chance.nextInt(9) == 0 ? chance.nextInt(5) - 1 : chance.nextInt(2);
                is("climb(" + other + ", " + what + ")", model.climb(other, what), x.climb(other, what));
                break;
            default:
                is("count(0)", model.top, x.count(0));
                is("count(1)", Model.sum(model.hand), x.count(1));
                is("count(2)", model.hand.size(), x.count(2));
                is("count(3)", model.creaksOn(model.hand), x.count(3));
                is("count(4)", model.greatsIn(model.hand), x.count(4));
                is("count(8)", -1, x.count(8));
                is("count(-1)", -1, x.count(-1));
                break;
        }
    }

    private void askPlain() {
        int steps = chance.nextInt(chance.nextInt(9) == 0 ? 3000 : 40);
        int number = 1 + chance.nextInt(chance.nextBoolean() ? 9999 : 12);
        is("plain(" + steps + ", " + number + ")", model.plain(steps, number), x.plain(steps, number));
    }

    private void askCrowd() {
        long many = 1 + (chance.nextInt(3) == 0 ? chance.nextInt(20) : Math.floorMod(chance.nextLong(), 1000000000000L));
        long[] want = model.crowd(many);
        for (int step = -1; step <= model.top + 1; step++) {
            boolean is = step >= 0 && step <= model.top;
            is("crowd(" + many + ", " + step + ")", is ? want[step] : -1, x.crowd(many, step));
        }
        is("weary(" + many + ")", want[model.top + 1], x.weary(many));
    }
}
