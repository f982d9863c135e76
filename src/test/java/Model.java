import java.util.ArrayList;
import java.util.Arrays;
import java.util.HashSet;
import java.util.LinkedHashMap;
import java.util.List;
import java.util.Map;
import java.util.Random;
import java.util.Set;
import java.util.TreeMap;

/**
 * A stair drawn by chance and what the document says of it, as slowly and plainly as can be: whole
 * rows of strides are listed and looked at one by one. Only for stairs of few steps.
 */
final class Model {
    final int top;
    final List<Integer> strides = new ArrayList<>();
    final int[] kinds;
    final int[] dusts;
    final Set<Integer> bars = new HashSet<>();
    int creaks = -1;
    int foot = -1;
    int least = 0;
    int most = 40;
    int great = -1;
    int greatTimes;
    Expression mood;
    final String text;
    List<Integer> hand = new ArrayList<>();
    private List<List<Integer>> everyWay;
    private List<List<Integer>> lawfulWays;

    interface Expression {
        int value(int stride, int last, int step, int taken);
    }

    Model(Random chance, int mostSteps) {
        top = 1 + chance.nextInt(mostSteps);
        kinds = new int[top + 1];
        dusts = new int[top + 1];
        List<String> lines = new ArrayList<>();
        drawStrides(chance, lines);
        drawSteps(chance, lines);
        drawLimits(chance, lines);
        if (chance.nextInt(3) != 0) {
            StringBuilder told = new StringBuilder();
            mood = either(chance, told, 0);
            lines.add("mood " + told + " ;");
        }
        java.util.Collections.shuffle(lines, chance);
        StringBuilder all = new StringBuilder("stair " + top + " ;");
        for (String line : lines) {
            all.append(chance.nextInt(4) == 0 ? "\n" : " ").append(line);
        }
        text = all.toString();
    }

    /** A stair with nothing told yet but its steps: who makes it fills in what the text tells. */
    Model(int top, String text) {
        this.top = top;
        this.text = text;
        kinds = new int[top + 1];
        dusts = new int[top + 1];
    }

    /** Forty steps, six strides with a bar behind each, all limits at their most: no stair has more to be carried up it. */
    static Model fullest(int longest, int least, int most, int foot) {
        StringBuilder text = new StringBuilder("stair 40;creaks 4;great 3 times 4;count " + least + " to " + most + ";strides");
        StringBuilder lines = new StringBuilder(foot == -1 ? "" : foot == 1 ? "foot left;" : "foot right;");
        int[] strides = {longest, 2, 3, 4, 5, 1};
        for (int stride : strides) {
            text.append(' ').append(stride);
            lines.append("bar ").append(stride).append(' ').append(stride == 1 ? 2 : stride).append(';');
        }
        for (int step = 1; step < 40; step += 2) {
            lines.append("creak ").append(step).append(';');
        }
        Model model = new Model(40, text + ";" + lines + "mood stride+last*2-taken;");
        for (int stride : strides) {
            model.strides.add(stride);
            model.bars.add(stride * 100 + (stride == 1 ? 2 : stride));
        }
        java.util.Collections.sort(model.strides);
        for (int step = 1; step < 40; step += 2) {
            model.kinds[step] = 2;
        }
        model.creaks = 4;
        model.great = 3;
        model.greatTimes = 4;
        model.least = least;
        model.most = most;
        model.foot = foot;
        model.mood = (stride, last, step, taken) -> stride + last * 2 - taken;
        return model;
    }

    private void drawStrides(Random chance, List<String> lines) {
        if (chance.nextInt(3) == 0) {
            strides.addAll(List.of(1, 2));
            return;
        }
        StringBuilder line = new StringBuilder("strides");
        int wanted = 1 + chance.nextInt(6);
        for (int i = 0; i < wanted; i++) {
            int stride = 1 + chance.nextInt(chance.nextInt(4) == 0 ? 12 : Math.min(12, wanted + 1));
            if (!strides.contains(stride)) {
                strides.add(stride);
                line.append(' ').append(stride);
            }
        }
        java.util.Collections.sort(strides);
        lines.add(line + " ;");
    }

    private void drawSteps(Random chance, List<String> lines) {
        String[] names = {"", "broken", "creak", "landing"};
        for (int step = 1; step < top; step++) {
            if (chance.nextInt(5) == 0) {
                int kind = 1 + chance.nextInt(3);
                if (kind == 3 && chance.nextInt(2) == 0) {
                    kind = 2;
                }
                kinds[step] = kind;
                lines.add(names[kind] + " " + step + " ;");
            }
        }
    }

    private void drawLimits(Random chance, List<String> lines) {
        if (chance.nextInt(3) == 0) {
            creaks = chance.nextInt(5);
            lines.add("creaks " + creaks + " ;");
        }
        int barred = chance.nextInt(2) == 0 ? 0 : chance.nextInt(4);
        for (int i = 0; i < barred; i++) {
            int one = chance.nextBoolean() ? strides.get(chance.nextInt(strides.size())) : 1 + chance.nextInt(12);
            int other = chance.nextBoolean() ? strides.get(chance.nextInt(strides.size())) : 1 + chance.nextInt(12);
            if (bars.add(one * 100 + other)) {
                lines.add("bar " + one + " " + other + " ;");
            }
        }
        if (chance.nextInt(4) == 0) {
            foot = chance.nextInt(2);
            lines.add(foot == 1 ? "foot left ;" : "foot right ;");
        }
        if (chance.nextInt(4) == 0) {
            least = chance.nextInt(top + 1);
            most = chance.nextInt(4) == 0 ? least + chance.nextInt(41 - least) : Math.min(40, least + chance.nextInt(top + 1));
            lines.add("count " + least + " to " + most + " ;");
        }
        if (chance.nextInt(3) == 0) {
            great = 1 + chance.nextInt(chance.nextInt(3) == 0 ? 12 : 4);
            greatTimes = chance.nextInt(5);
            lines.add("great " + great + " times " + greatTimes + " ;");
        }
    }

    // ---- expressions: the text and the meaning are made together

    private static Expression either(Random chance, StringBuilder told, int within) {
        Expression left = test(chance, told, within);
        for (int i = chance.nextInt(4); i >= 3; i--) {
            boolean and = chance.nextBoolean();
            told.append(and ? " and " : " or ");
            Expression one = left;
            Expression other = test(chance, told, within);
            left = and
                ? (a, b, c, d) -> one.value(a, b, c, d) != 0 & other.value(a, b, c, d) != 0 ? 1 : 0
                : (a, b, c, d) -> one.value(a, b, c, d) != 0 | other.value(a, b, c, d) != 0 ? 1 : 0;
        }
        return left;
    }

    private static Expression test(Random chance, StringBuilder told, int within) {
        Expression one = sum(chance, told, within);
        int kind = chance.nextInt(6);
        if (kind > 1) {
            return one;
        }
        told.append(kind == 0 ? " < " : "=");
        Expression other = sum(chance, told, within);
        return kind == 0
            ? (a, b, c, d) -> one.value(a, b, c, d) < other.value(a, b, c, d) ? 1 : 0
            : (a, b, c, d) -> one.value(a, b, c, d) == other.value(a, b, c, d) ? 1 : 0;
    }

    private static Expression sum(Random chance, StringBuilder told, int within) {
        Expression left = product(chance, told, within);
        for (int i = 0; i < 2 && chance.nextInt(3) == 0; i++) {
            boolean plus = chance.nextBoolean();
            told.append(plus ? "+" : " - ");
            Expression one = left;
            Expression other = product(chance, told, within);
            left = plus
                ? (a, b, c, d) -> one.value(a, b, c, d) + other.value(a, b, c, d)
                : (a, b, c, d) -> one.value(a, b, c, d) - other.value(a, b, c, d);
        }
        return left;
    }

    private static Expression product(Random chance, StringBuilder told, int within) {
        Expression left = part(chance, told, within);
        for (int i = 0; i < 4 && chance.nextInt(4) == 0; i++) {
            told.append(" * ");
            Expression one = left;
            Expression other = part(chance, told, within);
            left = (a, b, c, d) -> one.value(a, b, c, d) * other.value(a, b, c, d);
        }
        return left;
    }

    private static Expression part(Random chance, StringBuilder told, int within) {
        int kind = chance.nextInt(within < 4 ? 9 : 6);
        switch (kind) {
            case 0:
                told.append(" stride ");
                return (a, b, c, d) -> a;
            case 1:
                told.append(" last ");
                return (a, b, c, d) -> b;
            case 2:
                told.append(" step ");
                return (a, b, c, d) -> c;
            case 3:
                told.append(" taken ");
                return (a, b, c, d) -> d;
            case 6:
                told.append(" not ");
                Expression turned = part(chance, told, within + 1);
                return (a, b, c, d) -> turned.value(a, b, c, d) == 0 ? 1 : 0;
            case 7:
                told.append("(");
                Expression inner = either(chance, told, within + 1);
                told.append(")");
                return inner;
            default:
                int number = chance.nextInt(5) == 0 ? chance.nextInt(10000) : chance.nextInt(6);
                told.append(number);
                return (a, b, c, d) -> number;
        }
    }

    // ---- ways

    static int sum(List<Integer> row) {
        int sum = 0;
        for (int stride : row) {
            sum += stride;
        }
        return sum;
    }

    static List<Integer> with(List<Integer> row, int stride) {
        List<Integer> longer = new ArrayList<>(row);
        longer.add(stride);
        return longer;
    }

    int creaksOn(List<Integer> row) {
        int number = 0;
        for (int i = 1; i <= row.size(); i++) {
            number += kinds[sum(row.subList(0, i))] == 2 ? 1 : 0;
        }
        return number;
    }

    int greatsIn(List<Integer> row) {
        int number = 0;
        for (int stride : row) {
            number += great != -1 && stride >= great ? 1 : 0;
        }
        return number;
    }

    private Set<Integer> trodden(List<Integer> row) {
        Set<Integer> steps = new HashSet<>();
        for (int i = 0; i <= row.size(); i++) {
            steps.add(sum(row.subList(0, i)));
        }
        return steps;
    }

    /** All rows of told strides to just the top. */
    List<List<Integer>> every() {
        if (everyWay == null) {
            everyWay = new ArrayList<>();
            list(new ArrayList<>());
        }
        return everyWay;
    }

    private void list(List<Integer> row) {
        int at = sum(row);
        if (at == top) {
            everyWay.add(row);
        }
        for (int stride : strides) {
            if (at + stride <= top) {
                list(with(row, stride));
            }
        }
    }

    private boolean isLawful(List<Integer> row) {
        Set<Integer> steps = trodden(row);
        for (int step = 0; step <= top; step++) {
            if (kinds[step] == 1 && steps.contains(step) || kinds[step] == 3 && !steps.contains(step)) {
                return false;
            }
        }
        if (creaks != -1 && creaksOn(row) > creaks || great != -1 && greatsIn(row) > greatTimes) {
            return false;
        }
        for (int i = 1; i < row.size(); i++) {
            if (bars.contains(row.get(i - 1) * 100 + row.get(i))) {
                return false;
            }
        }
        if (row.size() < least || row.size() > most) {
            return false;
        }
        return foot == -1 || row.size() % 2 == foot;
    }

    /** In their order: the listing goes by the lesser strides ahead. */
    List<List<Integer>> lawfuls() {
        if (lawfulWays == null) {
            lawfulWays = new ArrayList<>();
            for (List<Integer> row : every()) {
                if (isLawful(row)) {
                    lawfulWays.add(row);
                }
            }
        }
        return lawfulWays;
    }

    List<List<Integer>> lawfulsBehind(List<Integer> row) {
        List<List<Integer>> found = new ArrayList<>();
        for (List<Integer> way : lawfuls()) {
            if (way.size() >= row.size() && way.subList(0, row.size()).equals(row)) {
                found.add(way);
            }
        }
        return found;
    }

    boolean may(List<Integer> row, int stride) {
        int at = sum(row);
        if (!strides.contains(stride) || at + stride > top || kinds[at + stride] == 1) {
            return false;
        }
        for (int step = at + 1; step < at + stride; step++) {
            if (kinds[step] == 3) {
                return false;
            }
        }
        if (!row.isEmpty() && bars.contains(row.get(row.size() - 1) * 100 + stride)) {
            return false;
        }
        List<Integer> longer = with(row, stride);
        boolean tooCreaky = creaks != -1 && creaksOn(longer) > creaks && kinds[at + stride] == 2;
        boolean tooGreat = great != -1 && greatsIn(longer) > greatTimes && stride >= great;
        return !tooCreaky && !tooGreat && longer.size() <= most;
    }

    long many(int exactly) {
        long number = 0;
        for (List<Integer> way : lawfulsBehind(hand)) {
            number += exactly == -1 || way.size() == exactly ? 1 : 0;
        }
        return number;
    }

    int lawful() {
        if (sum(hand) != top) {
            return -1;
        }
        if (foot != -1 && hand.size() % 2 != foot) {
            return 1;
        }
        return hand.size() < least ? 2 : 0;
    }

    long rank() {
        return lawfuls().indexOf(hand);
    }

    int nth(long number, int i) {
        if (number < 0 || number >= lawfuls().size()) {
            return -1;
        }
        List<Integer> way = lawfuls().get((int) number);
        return i >= 0 && i < way.size() ? way.get(i) : -1;
    }

    int fair(int seed, int i) {
        List<List<Integer>> ways = lawfulsBehind(hand);
        if (seed < 0 || seed > 9999 || i < 0 || ways.isEmpty()) {
            return -1;
        }
        long[] g = {seed};
        long number = draw(g, 32768);
        number = number * 32768 + draw(g, 32768);
        number = number * 32768 + draw(g, 32768);
        List<Integer> way = ways.get((int) (number % ways.size()));
        return i < way.size() - hand.size() ? way.get(hand.size() + i) : -1;
    }

    static int draw(long[] g, int below) {
        g[0] = java.math.BigInteger.valueOf(g[0]).multiply(java.math.BigInteger.valueOf(1103515245L))
            .add(java.math.BigInteger.valueOf(12345)).mod(java.math.BigInteger.valueOf(2147483648L)).longValue();
        return (int) (g[0] / 65536 % below);
    }

    long fit() {
        long number = 0;
        for (List<Integer> way : lawfuls()) {
            number += agrees(trodden(way)) ? 1 : 0;
        }
        return number;
    }

    private boolean agrees(Set<Integer> steps) {
        for (int step = 1; step < top; step++) {
            if (dusts[step] == 1 && !steps.contains(step) || dusts[step] == 2 && steps.contains(step)) {
                return false;
            }
        }
        return true;
    }

    /** By the trodden steps that so many climbers can have swept together, one climber more each time. */
    int fewest() {
        int wanted = 0;
        for (int step = 1; step < top; step++) {
            wanted |= dusts[step] == 1 ? 1 << step : 0;
        }
        Set<Integer> single = new HashSet<>();
        for (List<Integer> way : every()) {
            int swept = 0;
            boolean can = true;
            for (int step : trodden(way)) {
                swept |= 1 << step;
                can &= kinds[step] != 1 && dusts[step] != 2;
            }
            if (can) {
                single.add(swept & wanted);
            }
        }
        Set<Integer> together = new HashSet<>(Set.of(0));
        for (int climbers = 0; climbers <= top; climbers++) {
            if (together.contains(wanted)) {
                return climbers;
            }
            Set<Integer> more = new HashSet<>(together);
            for (int one : together) {
                for (int other : single) {
                    more.add(one | other);
                }
            }
            together = more;
        }
        return -1;
    }

    // ---- moods

    int weight(List<Integer> row, int stride) {
        if (!may(row, stride)) {
            return -1;
        }
        int last = row.isEmpty() ? 0 : row.get(row.size() - 1);
        int value = mood == null ? 1 : mood.value(stride, last, sum(row), row.size());
        return value < 0 ? 0 : value > 9 ? 9 : value;
    }

    /** One climber of each group stands for it, by the row of strides that came first. */
    long[] crowd(long many) {
        long[] trod = new long[top + 2];
        Map<String, Object[]> groups = new LinkedHashMap<>();
        groups.put("", new Object[] {new ArrayList<Integer>(), many});
        trod[0] = many;
        while (!groups.isEmpty()) {
            Map<String, Object[]> next = new TreeMap<>();
            for (Object[] group : groups.values()) {
                @SuppressWarnings("unchecked")
                List<Integer> row = (List<Integer>) group[0];
                long number = (Long) group[1];
                long all = 0;
                int first = -1;
                for (int stride : strides) {
                    int weight = weight(row, stride);
                    all += Math.max(0, weight);
                    first = first == -1 && weight > 0 ? stride : first;
                }
                if (all == 0) {
                    continue;
                }
                long left = number;
                for (int stride : strides) {
                    left -= number * Math.max(0, weight(row, stride)) / all;
                }
                for (int stride : strides) {
                    long part = number * Math.max(0, weight(row, stride)) / all + (stride == first ? left : 0);
                    if (part == 0) {
                        continue;
                    }
                    List<Integer> longer = with(row, stride);
                    trod[sum(longer)] += part;
                    trod[top + 1] += part;
                    String key = sum(longer) + " " + stride + " " + (creaks == -1 ? 0 : creaksOn(longer)) + " " + greatsIn(longer);
                    Object[] there = next.get(key);
                    next.put(key, new Object[] {longer, part + (there == null ? 0 : (Long) there[1])});
                }
            }
            groups = next;
        }
        return trod;
    }

    int climb(int seed, int what) {
        if (seed < 0 || seed > 9999 || what < 0 || what > 1) {
            return -1;
        }
        long[] g = {seed};
        List<Integer> row = new ArrayList<>();
        while (true) {
            int all = 0;
            for (int stride : strides) {
                all += Math.max(0, weight(row, stride));
            }
            if (all == 0) {
                return what == 0 ? sum(row) : row.size();
            }
            int drawn = draw(g, all);
            int soFar = 0;
            for (int stride : strides) {
                soFar += Math.max(0, weight(row, stride));
                if (soFar > drawn) {
                    row = with(row, stride);
                    break;
                }
            }
        }
    }

    // ---- two, games, heaps

    long two() {
        List<int[]> ups = new ArrayList<>();
        for (List<Integer> way : every()) {
            int[] at = new int[top + 1];
            boolean can = true;
            for (int beat = 1; beat <= top; beat++) {
                at[beat] = sum(way.subList(0, Math.min(beat, way.size())));
                can &= kinds[at[beat]] != 1;
            }
            if (can) {
                ups.add(at);
            }
        }
        List<int[]> downs = new ArrayList<>();
        for (List<Integer> way : every()) {
            int[] at = new int[top + 1];
            boolean can = true;
            for (int beat = 0; beat <= top; beat++) {
                at[beat] = top - sum(way.subList(0, Math.min(beat, way.size())));
                can &= kinds[at[beat]] != 1;
            }
            if (can) {
                downs.add(at);
            }
        }
        long pairs = 0;
        for (int[] up : ups) {
            for (int[] down : downs) {
                boolean apart = true;
                for (int beat = 1; beat <= top && apart; beat++) {
                    apart = up[beat] != down[beat];
                }
                pairs += apart ? 1 : 0;
            }
        }
        return pairs;
    }

    int game(List<Integer> row) {
        if (sum(row) == top) {
            return -1;
        }
        for (int stride : strides) {
            if (may(row, stride) && game(with(row, stride)) < 1) {
                return stride;
            }
        }
        return 0;
    }

    int heap(int step) {
        if (step < 0 || step > top || kinds[step] == 1) {
            return -1;
        }
        Set<Integer> reached = new HashSet<>();
        for (int stride : strides) {
            reached.add(heap(step + stride));
        }
        int heap = 0;
        while (reached.contains(heap)) {
            heap++;
        }
        return heap;
    }

    int heaps(int number) {
        int together = 0;
        long left = number;
        for (int i = 0; i < 4; i++) {
            int heap = number < 0 ? -1 : heap((int) (left % 64));
            if (heap == -1) {
                return -1;
            }
            together ^= heap;
            left /= 64;
        }
        return left > 0 ? -1 : together == 0 ? 0 : 1;
    }

    int plain(int steps, int number) {
        int[] row = new int[steps + 1];
        Arrays.fill(row, 0);
        row[0] = 1 % number;
        for (int step = 1; step <= steps; step++) {
            for (int stride : strides) {
                row[step] = (row[step] + (step >= stride ? row[step - stride] : 0)) % number;
            }
        }
        return row[steps];
    }
}
