import java.util.ArrayList;
import java.util.HashMap;
import java.util.List;
import java.util.Map;
import java.util.Random;

/** Stairs of up to forty steps drawn by chance: whole ways are too many to be listed there, so they are counted by all that one carries up. */
public final class FarModelTest {
    private static final Due due = new Due("FarModelTest");

    private final Model model;
    private final StairWays x = new StairWays();
    private final Map<Long, Long> kept = new HashMap<>();
    private boolean dusty;
    private int exactly = -1;

    public static void main(String[] args) {
        int wide = 0;
        for (int run = 0; run < 1500; run++) {
            Random chance = new Random(1000 + run);
            wide += new FarModelTest(new Model(chance, 40)).play(chance) > 1000 ? 1 : 0;
        }
        due.is("many stairs have more than 1,000 ways", true, wide > 100);
        for (int foot = -1; foot <= 1; foot++) {
            for (int longest = 6; longest <= 12; longest += 6) {
                for (int least = 0; least <= 16; least += 8) {
                    new FarModelTest(Model.fullest(longest, least, 39, foot)).play(new Random(least));
                    new FarModelTest(Model.fullest(longest, least, 40, foot)).play(new Random(least));
                    new FarModelTest(Model.fullest(longest, least, 17, foot)).play(new Random(least));
                }
            }
        }
        due.end();
    }

    private FarModelTest(Model model) {
        this.model = model;
    }

    private void is(String what, long want, long got) {
        due.is("'" + model.text + "' by " + model.hand + ": " + what, want, got);
    }

    /** One who stands on a step, as what one carries: strides taken, the last one, creaks and great ones. */
    private record One(int at, int taken, int last, int creaks, int greats) {
        long key() {
            return (((at * 41L + taken) * 13 + last) * 41 + creaks) * 41 + greats;
        }
    }

    private One next(One one, int stride) {
        int to = one.at + stride;
        if (to > model.top || model.kinds[to] == 1 || one.taken == model.most || model.bars.contains(one.last * 100 + stride)) {
            return null;
        }
        for (int step = one.at + 1; step < to; step++) {
            if (model.kinds[step] == 3 || dusty && model.dusts[step] == 1) {
                return null;
            }
        }
        int creaks = one.creaks + (model.kinds[to] == 2 ? 1 : 0);
        int greats = one.greats + (model.great != -1 && stride >= model.great ? 1 : 0);
        boolean creaky = model.creaks != -1 && creaks > model.creaks;
        boolean tired = model.great != -1 && greats > model.greatTimes;
        return creaky || tired || dusty && model.dusts[to] == 2 ? null : new One(to, one.taken + 1, stride, creaks, greats);
    }

    private long ways(One one) {
        if (one.at == model.top) {
            boolean few = one.taken < model.least || exactly != -1 && one.taken != exactly;
            return few || model.foot != -1 && one.taken % 2 != model.foot ? 0 : 1;
        }
        Long known = kept.get(one.key());
        if (known != null) {
            return known;
        }
        long sum = 0;
        for (int stride : model.strides) {
            One then = next(one, stride);
            sum += then == null ? 0 : ways(then);
        }
        kept.put(one.key(), sum);
        return sum;
    }

    private long ways(One one, boolean byDust, int strides) {
        kept.clear();
        dusty = byDust;
        exactly = strides;
        long number = ways(one);
        dusty = false;
        exactly = -1;
        return number;
    }

    private int wins(One one) {
        if (one.at == model.top) {
            return 0;
        }
        Long known = kept.get(one.key());
        if (known != null) {
            return (int) (long) known;
        }
        int won = 0;
        for (int stride : model.strides) {
            One then = next(one, stride);
            if (won == 0 && then != null && wins(then) == 0) {
                won = stride;
            }
        }
        kept.put(one.key(), (long) won);
        return won;
    }

    private List<Integer> wayOf(long number, One from) {
        kept.clear();
        List<Integer> way = new ArrayList<>();
        long left = number;
        One one = from;
        while (one.at < model.top) {
            for (int stride : model.strides) {
                One then = next(one, stride);
                long here = then == null ? 0 : ways(then);
                if (left < here) {
                    way.add(stride);
                    one = then;
                    break;
                }
                left -= here;
            }
        }
        return way;
    }

    private long play(Random chance) {
        is("stair()", 0, Due.read(x, model.text));
        for (int step = 1; step < model.top; step++) {
            if (chance.nextInt(6) == 0) {
                model.dusts[step] = chance.nextInt(3);
                x.dust(step, model.dusts[step]);
            }
        }
        One foot = new One(0, 0, 0, 0, 0);
        long all = ways(foot, false, -1);
        is("fit()", ways(foot, true, -1), x.fit());
        is("many() at the foot", all, x.many());
        askNumbers(chance, foot, all);
        askCrowd(chance);
        is("climb(0, 0)", model.climb(0, 0), x.climb(0, 0));
        int seed = chance.nextInt(10000);
        is("climb(" + seed + ", 1)", model.climb(seed, 1), x.climb(seed, 1));
        One here = walk(chance, foot);
        askHere(chance, here);
        return all;
    }

    private void askNumbers(Random chance, One foot, long all) {
        for (int i = 0; i < 4 && all > 0; i++) {
            long number = i == 0 ? 0 : i == 1 ? all - 1 : Math.floorMod(chance.nextLong(), all);
            List<Integer> way = wayOf(number, foot);
            for (int k = 0; k <= way.size(); k++) {
                is("nth(" + number + ", " + k + ")", k < way.size() ? way.get(k) : -1, x.nth(number, k));
            }
            for (int stride : way) {
                is("stride(" + stride + ")", 1, x.stride(stride) ? 1 : 0);
            }
            is("rank of " + way, number, x.rank());
            x.back(true);
        }
        is("nth(all, 0)", -1, x.nth(all, 0));
    }

    private void askCrowd(Random chance) {
        long many = 1 + Math.floorMod(chance.nextLong(), 1_000_000_000_000L);
        long[] want = model.crowd(many);
        for (int step = 0; step <= model.top; step++) {
            is("crowd(" + many + ", " + step + ")", want[step], x.crowd(many, step));
        }
        is("weary(" + many + ")", want[model.top + 1], x.weary(many));
    }

    private One walk(Random chance, One foot) {
        One here = foot;
        int far = chance.nextInt(20);
        for (int i = 0; i < far; i++) {
            int stride = model.strides.get(chance.nextInt(model.strides.size()));
            One then = next(here, stride);
            is("stride(" + stride + ")", then != null ? 1 : 0, x.stride(stride) ? 1 : 0);
            if (then != null) {
                here = then;
                model.hand = Model.with(model.hand, stride);
            }
        }
        return here;
    }

    private void askHere(Random chance, One here) {
        long many = ways(here, false, -1);
        is("many()", many, x.many());
        for (int strides = 0; strides <= 40; strides++) {
            is("manyOf(" + strides + ")", ways(here, false, strides), x.manyOf(strides));
        }
        kept.clear();
        is("game()", here.at == model.top ? -1 : wins(here), x.game());
        int seed = chance.nextInt(10000);
        if (many > 0) {
            long[] g = {seed};
            long number = Model.draw(g, 32768);
            number = number * 32768 + Model.draw(g, 32768);
            number = number * 32768 + Model.draw(g, 32768);
            List<Integer> way = wayOf(number % many, here);
            for (int k = 0; k <= way.size(); k++) {
                is("fair(" + seed + ", " + k + ")", k < way.size() ? way.get(k) : -1, x.fair(seed, k));
            }
        } else {
            is("fair(" + seed + ", 0)", -1, x.fair(seed, 0));
        }
    }
}
