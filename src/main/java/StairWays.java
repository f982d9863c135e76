import java.util.NoSuchElementException;

/**
 * A stair, told in a small language, and the ways up it: counted, ranked, drawn, walked by hand, by
 * crowds, by two at once, as a game, and as dust tells of them.
 */
public final class StairWays {

    public static final int NONE = -1;

    private static final int MOST_SIGNS = 1000;
    private static final int MOST_STEPS = 40;
    private static final int MOST_STRIDE = 12;
    private static final int MOST_TOLD = 6;
    private static final int MOST_BARS = 8;
    private static final int MOST_WITHIN = 5;
    private static final int MOST_WEIGHT = 9;
    private static final int MOST_TWO = 24;
    private static final int MOST_SEED = 9999;
    private static final int MOST_NUMBER = 9999;
    private static final int MOST_PLAIN = 999999999;
    private static final int MOST_STILL = 999;
    private static final long MOST_CROWD = 1000000000000L;
    private static final int MARKS = 4;
    private static final int STAIRS = 4;
    private static final int DRAWN = 32768;

    private static final int BROKEN = 1;
    private static final int CREAK = 2;
    private static final int LANDING = 3;

    private static final int TRODDEN = 1;
    private static final int UNTRODDEN = 2;

    private static final int RIGHT = 0;
    private static final int LEFT = 1;

    private static final int LAWFUL = 0;
    private static final int OTHER_FOOT = 1;
    private static final int TOO_FEW = 2;

    private final StairReader reader;
    private final Climber hand;
    private final Climber ghost;
    private final Ways ways;
    private final Throng throng;
    private final Sweep sweep;
    private final Pair pair;
    private final Rests rests;
    private final Mark[] marks;
    private final int[] dusts;
    private final int[] weights;
    private Stair told;
    private Stair spare;
    private long drawing;

    public StairWays() {
        reader = new StairReader();
        hand = new Climber();
        ghost = new Climber();
        ways = new Ways();
        throng = new Throng();
        sweep = new Sweep();
        pair = new Pair();
        rests = new Rests();
        marks = new Mark[MARKS];
        for (int i = 0; i < MARKS; i++) {
            marks[i] = new Mark();
        }
        dusts = new int[MOST_STEPS + 1];
        weights = new int[MOST_TOLD];
        told = new Stair();
        spare = new Stair();
        told.clear();
        told.finish();
    }

    public int feed(long a, long b, long c) {
        reader.tape.put(a);
        reader.tape.put(b);
        reader.tape.put(c);
        return reader.tape.length;
    }

    public int stair() {
        int fault = reader.read(spare);
        if (fault == 0) {
            Stair old = told;
            told = spare;
            spare = old;
            beginAnew();
        }
        return fault;
    }

    public int step(int step, int what) {
        if (step < 0 || step > told.top) {
            return NONE;
        }
        switch (what) {
            case 0:
                return told.kinds[step];
            case 1:
                return told.heapOf[step];
            case 2:
                return dusts[step];
            default:
                return NONE;
        }
    }

    public boolean may(int stride) {
        return hand.can(told, stride);
    }

    public boolean stride(int stride) {
        if (!hand.can(told, stride)) {
            return false;
        }
        hand.go(told, stride);
        return true;
    }

    public boolean back(boolean all) {
        if (hand.paces == 0) {
            return false;
        }
        if (all) {
            hand.start();
        } else {
            hand.undo(told);
        }
        return true;
    }

    public int taken(int i) {
        return i >= 0 && i < hand.paces ? hand.strides[i] : NONE;
    }

    public int lawful() {
        if (hand.at < told.top) {
            return NONE;
        }
        if (!told.footFits(hand.paces)) {
            return OTHER_FOOT;
        }
        return hand.paces < told.least ? TOO_FEW : LAWFUL;
    }

    public long many() {
        return manyFrom(hand);
    }

    public long manyOf(int strides) {
        if (strides < 0 || strides > MOST_STEPS) {
            return NONE;
        }
        ways.beginExactly(told, strides);
        ghost.follow(hand);
        return ways.from(told, ghost, 0);
    }

    public long rank() {
        if (lawful() != LAWFUL) {
            return NONE;
        }
        ways.beginAll(told);
        ghost.start();
        long ahead = 0;
        for (int i = 0; i < hand.paces; i++) {
            ahead += ways.ahead(told, ghost, hand.strides[i]);
            ghost.go(told, hand.strides[i]);
        }
        return ahead;
    }

    public int nth(long number, int i) {
        ghost.start();
        return strideOf(number, i);
    }

    public int plain(int steps, int number) throws NoSuchElementException {
        if (steps < 0 || steps > MOST_PLAIN || number < 1 || number > MOST_NUMBER) {
            throw new NoSuchElementException();
        }
        return rests.rest(told, steps, number);
    }

    public long crowd(long many, int step) {
        if (isNoCrowd(many) || step < 0 || step > told.top) {
            return NONE;
        }
        throng.goUp(told, many);
        return throng.trod[step];
    }

    public long weary(long many) {
        if (isNoCrowd(many)) {
            return NONE;
        }
        throng.goUp(told, many);
        return throng.paces;
    }

    public int weight(int stride) {
        return hand.can(told, stride) ? hand.moodOf(told, stride) : NONE;
    }

    public long two() {
        return told.top > MOST_TWO ? NONE : pair.pairs(told);
    }

    public int game() {
        if (hand.at >= told.top) {
            return NONE;
        }
        ways.beginGame(told);
        ghost.follow(hand);
        return ways.winning(told, ghost, 0);
    }

    public int heaps(int steps) {
        if (steps < 0) {
            return NONE;
        }
        int left = steps;
        int together = 0;
        for (int i = 0; i < STAIRS; i++) {
            int step = left & 63;
            left >>= 6;
            if (step > told.top || told.kinds[step] == BROKEN) {
                return NONE;
            }
            together ^= told.heapOf[step];
        }
        if (left != 0) {
            return NONE;
        }
        return together != 0 ? 1 : 0;
    }

    public boolean dust(int step, int what) {
        if (step < 1 || step >= told.top || what < 0 || what > UNTRODDEN) {
            return false;
        }
        dusts[step] = what;
        return true;
    }

    public long fit() {
        ways.beginDusty(told, dusts);
        ghost.start();
        return ways.from(told, ghost, 0);
    }

    public int fewest() {
        return sweep.fewestClimbers(told, dusts);
    }

    public int still(int c, int t, int other, int seconds, int what) {
        if (isNoStill(c) || isNoStill(t) || isNoStill(other) || isNoStill(seconds)) {
            return NONE;
        }
        if (what < 0 || what > 1 || t == seconds) {
            return NONE;
        }
        // c + t * speed = other + seconds * speed, solved for the steps without dividing yet
        int above = c * seconds - other * t;
        int below = seconds - t;
        if (below < 0) {
            above = -above;
            below = -below;
        }
        if (above <= 0) {
            return NONE;
        }
        int common = commonDivisor(above, below);
        return (what == 0 ? above : below) / common;
    }

    public int fair(int seed, int i) {
        if (isNoSeed(seed)) {
            return NONE;
        }
        long all = manyFrom(hand);
        if (all <= 0) {
            return NONE;
        }
        drawing = seed;
        long number = drawBelow(DRAWN);
        number = number * DRAWN + drawBelow(DRAWN);
        number = number * DRAWN + drawBelow(DRAWN);
        return strideOf(number % all, i);
    }

    public int climb(int seed, int what) {
        if (isNoSeed(seed) || what < 0 || what > 1) {
            return NONE;
        }
        drawing = seed;
        ghost.start();
        for (int i = 0; i < MOST_STEPS; i++) {
            ghost.feelMoods(told, weights);
            int all = ghost.keepPossible(told, weights, weights);
            if (all <= 0) {
                break;
            }
            ghost.go(told, strideWeighing(drawBelow(all)));
        }
        return what == 0 ? ghost.at : ghost.paces;
    }

    public boolean mark(int mark, boolean back) {
        if (mark < 0 || mark >= marks.length) {
            return false;
        }
        Mark here = marks[mark];
        if (here == null || back && !here.laid) {
            return false;
        }
        if (back) {
            hand.follow(here.climber);
            System.arraycopy(here.dusts, 0, dusts, 0, dusts.length);
        } else {
            here.laid = true;
            here.climber.follow(hand);
            System.arraycopy(dusts, 0, here.dusts, 0, dusts.length);
        }
        return true;
    }

    public int count(int what) {
        switch (what) {
            case 0:
                return told.top;
            case 1:
                return hand.at;
            case 2:
                return hand.paces;
            case 3:
                return hand.creaks;
            case 4:
                return hand.greats;
            case 5:
                return told.kindsOfStride;
            case 6:
                return told.bars;
            case 7:
                return reader.tape.length;
            default:
                return NONE;
        }
    }

    private void beginAnew() {
        hand.start();
        ways.forget();
        throng.forget();
        for (int i = 0; i < dusts.length; i++) {
            dusts[i] = 0;
        }
        for (int i = 0; i < marks.length; i++) {
            Mark here = marks[i];
            if (here != null) {
                here.laid = false;
            }
        }
    }

    /** Lawful ways that go on so; the ghost stands there then. */
    private long manyFrom(Climber climber) {
        ways.beginAll(told);
        ghost.follow(climber);
        return ways.from(told, ghost, 0);
    }

    /** The i-th stride, from where the ghost is, of the lawful way of a number from there. */
    private int strideOf(long number, int i) {
        ways.beginAll(told);
        if (i < 0 || number < 0 || number >= ways.from(told, ghost, 0)) {
            return NONE;
        }
        return ways.strideAt(told, ghost, number, i);
    }

    private int drawBelow(int bound) {
        drawing = (drawing * 1103515245L + 12345L) & 2147483647L;
        return bound <= 0 ? 0 : (int) (drawing / 65536L % bound);
    }

    /** The first told stride with which the weights so far are more than what was drawn. */
    private int strideWeighing(int drawn) {
        int soFar = 0;
        for (int k = 0; k < told.kindsOfStride && k < weights.length; k++) {
            soFar += weights[k];
            if (soFar > drawn) {
                return told.strides[k];
            }
        }
        return NONE;
    }

    private static boolean isNoCrowd(long many) {
        return many < 1 || many > MOST_CROWD;
    }

    private static boolean isNoStill(int number) {
        return number < 1 || number > MOST_STILL;
    }

    private static boolean isNoSeed(int seed) {
        return seed < 0 || seed > MOST_SEED;
    }

    private static int commonDivisor(int one, int other) {
        int a = one;
        int b = other;
        for (int i = 0; i < 64 && b != 0; i++) {
            int rest = a % b;
            a = b;
            b = rest;
        }
        return a > 0 ? a : 1;
    }

    /** The law of mood, as a row of what is to be done with a pile of numbers. */
    private static final class Mood {
        static final int STRIDE = -1;
        static final int LAST = -2;
        static final int STEP = -3;
        static final int TAKEN = -4;
        static final int NOT = -5;
        static final int PLUS = -6;
        static final int MINUS = -7;
        static final int TIMES = -8;
        static final int LESS = -9;
        static final int SAME = -10;
        static final int AND = -11;
        static final int OR = -12;

        // a number, 0 or more, stands for itself; every sign on the tape brings one deed at most
        final int[] deeds = new int[MOST_SIGNS];
        // five expressions within one another, each with four numbers that wait, need 21
        final int[] pile = new int[32];
        int length;

        void add(int deed) {
            if (length < deeds.length) {
                deeds[length] = deed;
                length++;
            }
        }

        int of(int stride, int last, int step, int taken) {
            if (length == 0) {
                return 1;
            }
            int high = 0;
            for (int i = 0; i < length && i < deeds.length; i++) {
                int deed = deeds[i];
                if (deed > NOT) {
                    if (high >= pile.length) {
                        return 0;
                    }
                    pile[high] = fact(deed, stride, last, step, taken);
                    high++;
                } else if (deed == NOT) {
                    if (high < 1) {
                        return 0;
                    }
                    pile[high - 1] = pile[high - 1] == 0 ? 1 : 0;
                } else {
                    if (high < 2) {
                        return 0;
                    }
                    high--;
                    pile[high - 1] = joined(deed, pile[high - 1], pile[high]);
                }
            }
            return pile[0];
        }

        private static int fact(int deed, int stride, int last, int step, int taken) {
            switch (deed) {
                case STRIDE:
                    return stride;
                case LAST:
                    return last;
                case STEP:
                    return step;
                case TAKEN:
                    return taken;
                default:
                    return deed;
            }
        }

        private static int joined(int deed, int one, int other) {
            switch (deed) {
                case PLUS:
                    return one + other;
                case MINUS:
                    return one - other;
                case TIMES:
                    return one * other;
                case LESS:
                    return one < other ? 1 : 0;
                case SAME:
                    return one == other ? 1 : 0;
                case AND:
                    return one != 0 && other != 0 ? 1 : 0;
                default:
                    return one != 0 || other != 0 ? 1 : 0;
            }
        }
    }

    /** All that is told of a stair, and what follows from it for every climb. */
    private static final class Stair {
        final int[] strides = new int[MOST_TOLD];
        final int[] places = new int[MOST_STRIDE + 1];
        final int[] kinds = new int[MOST_STEPS + 1];
        final int[] barredBehind = new int[MOST_STRIDE + 1];
        final int[] heapOf = new int[MOST_STEPS + 1];
        final int[] farthest = new int[MOST_STEPS + 1];
        final Mood mood = new Mood();
        int top;
        int kindsOfStride;
        int strideBits;
        int creakLimit;
        int bars;
        int foot;
        int least;
        int most;
        int great;
        int greatLimit;

        void clear() {
            for (int i = 0; i <= MOST_STEPS; i++) {
                kinds[i] = 0;
            }
            for (int i = 0; i <= MOST_STRIDE; i++) {
                barredBehind[i] = 0;
            }
            mood.length = 0;
            top = 1;
            kindsOfStride = 0;
            strideBits = 0;
            creakLimit = NONE;
            bars = 0;
            foot = NONE;
            least = 0;
            most = MOST_STEPS;
            great = NONE;
            greatLimit = 0;
        }

        void finish() {
            if (kindsOfStride == 0) {
                addStride(1);
                addStride(2);
            }
            for (int i = 0; i < places.length; i++) {
                places[i] = 0;
            }
            for (int k = 0; k < kindsOfStride; k++) {
                places[strides[k]] = k + 1;
            }
            findFarthest();
            findHeaps();
        }

        /** Keeps the lesser ones ahead, for all orders are by them. */
        void addStride(int stride) {
            if (kindsOfStride >= MOST_TOLD || stride < 1 || stride > MOST_STRIDE) {
                return;
            }
            int at = kindsOfStride;
            while (at > 0 && strides[at - 1] > stride) {
                strides[at] = strides[at - 1];
                at--;
            }
            strides[at] = stride;
            kindsOfStride++;
            strideBits |= 1 << stride;
        }

        boolean tells(int stride) {
            return stride >= 1 && stride <= MOST_STRIDE && (strideBits >> stride & 1) != 0;
        }

        boolean isBarred(int last, int stride) {
            return last >= 0 && last <= MOST_STRIDE && (barredBehind[last] >> stride & 1) != 0;
        }

        boolean isGreat(int stride) {
            return great != NONE && stride >= great;
        }

        boolean footFits(int paces) {
            return foot == NONE || foot == (paces & 1);
        }

        int longest() {
            return kindsOfStride > 0 ? strides[kindsOfStride - 1] : 1;
        }

        int creakKinds() {
            return creakLimit == NONE ? 1 : creakLimit + 1;
        }

        int greatKinds() {
            return great == NONE ? 1 : greatLimit + 1;
        }

        /** No stride goes over a landing: so far up, and no farther, one may come from each step. */
        private void findFarthest() {
            int bound = top;
            for (int step = top; step >= 0; step--) {
                farthest[step] = bound;
                if (kinds[step] == LANDING) {
                    bound = step;
                }
            }
        }

        private void findHeaps() {
            for (int step = top; step >= 0; step--) {
                heapOf[step] = kinds[step] == BROKEN ? NONE : leastHeap(step);
            }
        }

        private int leastHeap(int step) {
            int seen = 0;
            for (int k = 0; k < kindsOfStride; k++) {
                int to = step + strides[k];
                if (to <= top && kinds[to] != BROKEN) {
                    seen |= 1 << heapOf[to];
                }
            }
            int heap = 0;
            while (heap <= MOST_TOLD && (seen >> heap & 1) != 0) {
                heap++;
            }
            return heap;
        }
    }

    /** The tape and the token on it that is looked at. */
    private static final class Tape {
        static final int END = 0;
        static final int STRANGE = 1;
        static final int WORD = 2;
        static final int NUMBER = 3;
        static final int LONGEST_WORD = 8;
        static final int LONGEST_NUMBER = 4;
        static final String MARKS_OF_LANGUAGE = "()<=+-*;";

        final char[] signs = new char[MOST_SIGNS];
        int length;
        // one of the four above, or the sign itself
        int kind;
        int place;
        int end;
        int value;

        void put(long bytes) {
            for (int shift = 56; shift >= 0; shift -= 8) {
                int sign = (int) (bytes >> shift) & 255;
                boolean known = sign == 10 || sign >= 32 && sign <= 126;
                if (known && length < signs.length) {
                    signs[length] = (char) sign;
                    length++;
                }
            }
        }

        void rewind() {
            end = 0;
            advance();
        }

        void advance() {
            place = end;
            while (place < length && isBlank(signs[place])) {
                place++;
            }
            end = place;
            if (place >= length) {
                kind = END;
            } else if (isLetter(signs[place])) {
                readWord();
            } else if (isDigit(signs[place])) {
                readNumber();
            } else {
                char sign = signs[place];
                kind = MARKS_OF_LANGUAGE.indexOf(sign) >= 0 ? sign : STRANGE;
                end++;
            }
        }

        boolean isWord(String word) {
            if (kind != WORD || word.length() != end - place) {
                return false;
            }
            for (int i = 0; i < word.length(); i++) {
                if (signs[place + i] != word.charAt(i)) {
                    return false;
                }
            }
            return true;
        }

        private void readWord() {
            while (end < length && isLetter(signs[end])) {
                end++;
            }
            kind = end - place <= LONGEST_WORD ? WORD : STRANGE;
        }

        private void readNumber() {
            value = 0;
            while (end < length && isDigit(signs[end])) {
                value = value * 10 + signs[end] - '0';
                end++;
            }
            kind = end - place <= LONGEST_NUMBER ? NUMBER : STRANGE;
        }

        private static boolean isBlank(char sign) {
            return sign == 10 || sign == 32;
        }

        private static boolean isLetter(char sign) {
            return sign >= 'a' && sign <= 'z';
        }

        private static boolean isDigit(char sign) {
            return sign >= '0' && sign <= '9';
        }
    }

    /** Reads the tape as a stair; each method says whether there has been no fault so far. */
    private static final class StairReader {
        static final int CANNOT_STAND = 1;
        static final int TOLD_ALREADY = 3;
        static final int NOT_AS_TOLD = 4;
        static final int TOO_MANY = 5;

        static final int STRIDES = 1;
        static final int CREAKS = 2;
        static final int FOOT = 4;
        static final int COUNT = 8;
        static final int GREAT = 16;
        static final int MOOD = 32;

        final Tape tape = new Tape();
        private int linesTold;
        private int fault;
        private int number;

        int read(Stair into) {
            linesTold = 0;
            fault = 0;
            into.clear();
            tape.rewind();
            boolean right = readFirst(into);
            for (int line = 0; line < MOST_SIGNS && right && tape.kind != Tape.END; line++) {
                right = readLine(into);
            }
            tape.length = 0;
            if (fault == 0) {
                into.finish();
            }
            return fault;
        }

        private boolean readFirst(Stair into) {
            if (!takeWord("stair") || !takeNumber(1, MOST_STEPS)) {
                return false;
            }
            into.top = number;
            return takeSign(';');
        }

        private boolean readLine(Stair into) {
            if (tape.isWord("strides")) {
                return isFirst(STRIDES) && readStrides(into);
            }
            if (tape.isWord("broken")) {
                return readStep(into, BROKEN);
            }
            if (tape.isWord("creak")) {
                return readStep(into, CREAK);
            }
            if (tape.isWord("landing")) {
                return readStep(into, LANDING);
            }
            if (tape.isWord("creaks")) {
                return isFirst(CREAKS) && readCreaks(into);
            }
            if (tape.isWord("bar")) {
                return readBar(into);
            }
            if (tape.isWord("foot")) {
                return isFirst(FOOT) && readFoot(into);
            }
            if (tape.isWord("count")) {
                return isFirst(COUNT) && readCount(into);
            }
            if (tape.isWord("great")) {
                return isFirst(GREAT) && readGreat(into);
            }
            if (tape.isWord("mood")) {
                return isFirst(MOOD) && readEither(into.mood, 0) && takeSign(';');
            }
            return fail(CANNOT_STAND);
        }

        private boolean readStrides(Stair into) {
            for (int i = 0; i <= MOST_TOLD; i++) {
                if (i > 0 && tape.kind == ';') {
                    break;
                }
                if (tape.kind == Tape.NUMBER && into.tells(tape.value)) {
                    return fail(TOLD_ALREADY);
                }
                if (!isNumber(1, MOST_STRIDE)) {
                    return false;
                }
                if (i == MOST_TOLD) {
                    return fail(TOO_MANY);
                }
                into.addStride(tape.value);
                tape.advance();
            }
            return takeSign(';');
        }

        private boolean readStep(Stair into, int kind) {
            tape.advance();
            if (!isNumber(1, into.top - 1)) {
                return false;
            }
            int step = tape.value;
            if (into.kinds[step] != 0) {
                return fail(TOLD_ALREADY);
            }
            into.kinds[step] = kind;
            tape.advance();
            return takeSign(';');
        }

        private boolean readCreaks(Stair into) {
            if (!takeNumber(0, 4)) {
                return false;
            }
            into.creakLimit = number;
            return takeSign(';');
        }

        private boolean readBar(Stair into) {
            if (into.bars >= MOST_BARS) {
                return fail(TOO_MANY);
            }
            tape.advance();
            if (!takeNumber(1, MOST_STRIDE)) {
                return false;
            }
            int last = number;
            if (!isNumber(1, MOST_STRIDE)) {
                return false;
            }
            if (into.isBarred(last, tape.value)) {
                return fail(TOLD_ALREADY);
            }
            into.barredBehind[last] |= 1 << tape.value;
            into.bars++;
            tape.advance();
            return takeSign(';');
        }

        private boolean readFoot(Stair into) {
            if (tape.isWord("left")) {
                into.foot = LEFT;
            } else if (tape.isWord("right")) {
                into.foot = RIGHT;
            } else {
                return fail(CANNOT_STAND);
            }
            tape.advance();
            return takeSign(';');
        }

        private boolean readCount(Stair into) {
            if (!takeNumber(0, MOST_STEPS)) {
                return false;
            }
            into.least = number;
            if (!takeWord("to") || !takeNumber(into.least, MOST_STEPS)) {
                return false;
            }
            into.most = number;
            return takeSign(';');
        }

        private boolean readGreat(Stair into) {
            if (!takeNumber(1, MOST_STRIDE)) {
                return false;
            }
            into.great = number;
            if (!takeWord("times") || !takeNumber(0, 4)) {
                return false;
            }
            into.greatLimit = number;
            return takeSign(';');
        }

        private boolean readEither(Mood mood, int within) {
            if (!readTest(mood, within)) {
                return false;
            }
            for (int i = 0; i < MOST_SIGNS && (tape.isWord("and") || tape.isWord("or")); i++) {
                int deed = tape.isWord("and") ? Mood.AND : Mood.OR;
                tape.advance();
                if (!readTest(mood, within)) {
                    return false;
                }
                mood.add(deed);
            }
            return true;
        }

        private boolean readTest(Mood mood, int within) {
            if (!readSum(mood, within)) {
                return false;
            }
            if (tape.kind != '<' && tape.kind != '=') {
                return true;
            }
            int deed = tape.kind == '<' ? Mood.LESS : Mood.SAME;
            tape.advance();
            if (!readSum(mood, within)) {
                return false;
            }
            mood.add(deed);
            return true;
        }

        private boolean readSum(Mood mood, int within) {
            if (!readProduct(mood, within)) {
                return false;
            }
            for (int i = 0; i < MOST_SIGNS && (tape.kind == '+' || tape.kind == '-'); i++) {
                int deed = tape.kind == '+' ? Mood.PLUS : Mood.MINUS;
                tape.advance();
                if (!readProduct(mood, within)) {
                    return false;
                }
                mood.add(deed);
            }
            return true;
        }

        private boolean readProduct(Mood mood, int within) {
            if (!readPart(mood, within)) {
                return false;
            }
            for (int i = 0; i < MOST_SIGNS && tape.kind == '*'; i++) {
                tape.advance();
                if (!readPart(mood, within)) {
                    return false;
                }
                mood.add(Mood.TIMES);
            }
            return true;
        }

        private boolean readPart(Mood mood, int within) {
            boolean isNot = tape.isWord("not");
            boolean opens = tape.kind == '(';
            int fact = tape.kind == Tape.NUMBER ? tape.value : namedFact();
            if (!isNot && !opens && fact == Mood.NOT) {
                return fail(CANNOT_STAND);
            }
            if (within >= MOST_WITHIN) {
                return fail(TOO_MANY);
            }
            tape.advance();
            if (opens) {
                return readEither(mood, within + 1) && takeSign(')');
            }
            if (isNot && !readPart(mood, within + 1)) {
                return false;
            }
            mood.add(isNot ? Mood.NOT : fact);
            return true;
        }

        /** NOT stands for no fact: it is none itself. */
        private int namedFact() {
            if (tape.isWord("stride")) {
                return Mood.STRIDE;
            }
            if (tape.isWord("last")) {
                return Mood.LAST;
            }
            if (tape.isWord("step")) {
                return Mood.STEP;
            }
            return tape.isWord("taken") ? Mood.TAKEN : Mood.NOT;
        }

        private boolean isFirst(int line) {
            if ((linesTold & line) != 0) {
                return fail(TOLD_ALREADY);
            }
            linesTold |= line;
            tape.advance();
            return true;
        }

        private boolean isNumber(int from, int to) {
            if (tape.kind != Tape.NUMBER) {
                return fail(CANNOT_STAND);
            }
            return tape.value >= from && tape.value <= to || fail(NOT_AS_TOLD);
        }

        private boolean takeNumber(int from, int to) {
            if (!isNumber(from, to)) {
                return false;
            }
            number = tape.value;
            tape.advance();
            return true;
        }

        private boolean takeWord(String word) {
            if (!tape.isWord(word)) {
                return fail(CANNOT_STAND);
            }
            tape.advance();
            return true;
        }

        private boolean takeSign(char sign) {
            if (tape.kind != sign) {
                return fail(CANNOT_STAND);
            }
            tape.advance();
            return true;
        }

        private boolean fail(int kind) {
            fault = kind + 16 * tape.place;
            return false;
        }
    }

    /** One on the stair, and how one came there. */
    private static final class Climber {
        final int[] strides = new int[MOST_STEPS];
        int at;
        int paces;
        int last;
        int creaks;
        int greats;

        void start() {
            put(0, 0, 0, 0, 0);
        }

        /** Stands as one who came so; the strides themselves are not known then. */
        void put(int step, int taken, int stride, int creaksTrodden, int greatsTaken) {
            at = step;
            paces = taken;
            last = stride;
            creaks = creaksTrodden;
            greats = greatsTaken;
        }

        void follow(Climber other) {
            put(other.at, other.paces, other.last, other.creaks, other.greats);
            System.arraycopy(other.strides, 0, strides, 0, strides.length);
        }

        boolean can(Stair on, int stride) {
            if (!on.tells(stride) || at < 0 || at > MOST_STEPS || paces >= on.most) {
                return false;
            }
            int to = at + stride;
            if (to > on.farthest[at] || to > MOST_STEPS || on.kinds[to] == BROKEN) {
                return false;
            }
            if (on.isBarred(last, stride)) {
                return false;
            }
            if (on.kinds[to] == CREAK && on.creakLimit != NONE && creaks >= on.creakLimit) {
                return false;
            }
            return !on.isGreat(stride) || greats < on.greatLimit;
        }

        /** Only for a stride that can be taken. */
        void go(Stair on, int stride) {
            if (paces >= strides.length || stride < 1 || at + stride > on.top) {
                return;
            }
            strides[paces] = stride;
            paces++;
            at += stride;
            last = stride;
            creaks += on.kinds[at] == CREAK ? 1 : 0;
            greats += on.isGreat(stride) ? 1 : 0;
        }

        void undo(Stair on) {
            if (paces < 1 || paces > strides.length || at < 0 || at > MOST_STEPS) {
                return;
            }
            creaks -= on.kinds[at] == CREAK ? 1 : 0;
            greats -= on.isGreat(last) ? 1 : 0;
            at -= last;
            paces--;
            last = paces > 0 ? strides[paces - 1] : 0;
        }

        int moodOf(Stair on, int stride) {
            int mood = on.mood.of(stride, last, at, paces);
            return Math.max(0, Math.min(MOST_WEIGHT, mood));
        }

        /** The mood for each told stride, be it possible or not. */
        void feelMoods(Stair on, int[] moods) {
            for (int k = 0; k < on.kindsOfStride && k < moods.length; k++) {
                moods[k] = moodOf(on, on.strides[k]);
            }
        }

        /** The weights of moods, 0 where a stride can't be taken: all of them together. */
        int keepPossible(Stair on, int[] moods, int[] weights) {
            int all = 0;
            for (int k = 0; k < on.kindsOfStride && k < moods.length && k < weights.length; k++) {
                weights[k] = can(on, on.strides[k]) ? moods[k] : 0;
                all += weights[k];
            }
            return all;
        }
    }

    /** What can come of a climber by all that may follow: answers are kept by all that matters for them. */
    private static final class Ways {
        static final int NOTHING = -4;
        static final int GAME = -3;
        static final int DUSTY = -2;
        static final int ALL = -1;

        // more than this no stair needs: steps by paces, lasts, creaks and greats
        static final int MOST_ANSWERS = 820 * 7 * 25;

        private final int[] lastKindOf = new int[MOST_STRIDE + 1];
        private final int[] dusts = new int[MOST_STEPS + 1];
        private long[] answers = new long[64];
        // one of the four above, or how many strides the ways have
        private int purpose = NOTHING;
        private int least;
        private int most;
        private boolean pacesMatter;
        private boolean footMatters;
        private int lastKinds;
        private int creakKinds;
        private int greatKinds;

        void forget() {
            purpose = NOTHING;
        }

        void beginAll(Stair on) {
            if (purpose != ALL) {
                begin(on, ALL, on.least, on.most);
            }
        }

        void beginExactly(Stair on, int strides) {
            if (purpose != strides) {
                begin(on, strides, Math.max(on.least, strides), Math.min(on.most, strides));
            }
        }

        void beginGame(Stair on) {
            if (purpose != GAME) {
                begin(on, GAME, 0, on.most);
            }
        }

        void beginDusty(Stair on, int[] told) {
            for (int i = 0; i < dusts.length && i < told.length; i++) {
                dusts[i] = told[i];
            }
            begin(on, DUSTY, on.least, on.most);
        }

        /** Lawful ways from where the climber is; it stands there again then. */
        private long from(Stair on, Climber climber, int depth) {
            if (depth > MOST_STEPS) {
                return 0;
            }
            if (climber.at >= on.top) {
                return isEnd(on, climber) ? 1 : 0;
            }
            int place = placeOf(climber);
            if (place < 0 || place >= answers.length) {
                return 0;
            }
            if (answers[place] >= 0) {
                return answers[place];
            }
            long sum = 0;
            for (int k = 0; k < on.kindsOfStride; k++) {
                sum += behind(on, climber, on.strides[k], depth + 1);
            }
            answers[place] = sum;
            return sum;
        }

        /** Lawful ways that go on with this stride. */
        private long behind(Stair on, Climber climber, int stride, int depth) {
            if (!isOpen(on, climber, stride)) {
                return 0;
            }
            climber.go(on, stride);
            long number = from(on, climber, depth);
            climber.undo(on);
            return number;
        }

        /** Lawful ways that go on with a lesser stride than this one. */
        long ahead(Stair on, Climber climber, int stride) {
            long sum = 0;
            for (int k = 0; k < on.kindsOfStride && on.strides[k] < stride; k++) {
                sum += behind(on, climber, on.strides[k], 0);
            }
            return sum;
        }

        /** The i-th stride of the way of a number, below all from there; the climber goes on up to it. */
        int strideAt(Stair on, Climber climber, long number, int i) {
            long left = number;
            for (int n = 0; n <= i && n < MOST_STEPS && climber.at < on.top; n++) {
                int chosen = NONE;
                for (int k = 0; k < on.kindsOfStride && chosen == NONE; k++) {
                    long here = behind(on, climber, on.strides[k], 0);
                    if (left < here) {
                        chosen = on.strides[k];
                    } else {
                        left -= here;
                    }
                }
                if (n == i || chosen == NONE) {
                    return chosen;
                }
                climber.go(on, chosen);
            }
            return NONE;
        }

        /** The first stride by which who is next wins, 0 if none does. */
        private int winning(Stair on, Climber climber, int depth) {
            if (depth > MOST_STEPS) {
                return 0;
            }
            int place = placeOf(climber);
            if (place < 0 || place >= answers.length) {
                return 0;
            }
            if (answers[place] >= 0) {
                return (int) answers[place];
            }
            int won = 0;
            for (int k = 0; k < on.kindsOfStride && won == 0; k++) {
                int stride = on.strides[k];
                if (climber.can(on, stride)) {
                    climber.go(on, stride);
                    won = climber.at >= on.top || winning(on, climber, depth + 1) == 0 ? stride : 0;
                    climber.undo(on);
                }
            }
            answers[place] = won;
            return won;
        }

        private void begin(Stair on, int why, int from, int to) {
            purpose = why;
            least = from;
            most = to;
            pacesMatter = least > 1 || most < on.top;
            footMatters = on.foot != NONE && why != GAME;
            creakKinds = on.creakKinds();
            greatKinds = on.greatKinds();
            findLastKinds(on);
            int times = pacesMatter ? on.top * (on.top + 1) / 2 : footMatters ? 2 * on.top : on.top;
            int size = times * lastKinds * creakKinds * greatKinds;
            if (size > answers.length && size <= MOST_ANSWERS) {
                answers = new long[Math.max(size, Math.min(2 * answers.length, MOST_ANSWERS))];
            }
            for (int i = 0; i < size && i < answers.length; i++) {
                answers[i] = NONE;
            }
        }

        /** Last strides behind which nothing told is barred are all alike. */
        private void findLastKinds(Stair on) {
            lastKinds = 1;
            for (int last = 0; last <= MOST_STRIDE; last++) {
                lastKindOf[last] = 0;
                if (on.tells(last) && (on.barredBehind[last] & on.strideBits) != 0) {
                    lastKindOf[last] = lastKinds;
                    lastKinds++;
                }
            }
        }

        private int placeOf(Climber climber) {
            if (climber.last < 0 || climber.last > MOST_STRIDE) {
                return NONE;
            }
            int place = climber.at;
            if (pacesMatter) {
                place = climber.at * (climber.at + 1) / 2 + climber.paces;
            } else if (footMatters) {
                place = 2 * climber.at + (climber.paces & 1);
            }
            place = place * lastKinds + lastKindOf[climber.last];
            place = place * creakKinds + (creakKinds > 1 ? climber.creaks : 0);
            return place * greatKinds + (greatKinds > 1 ? climber.greats : 0);
        }

        private boolean isEnd(Stair on, Climber climber) {
            return climber.paces >= least && climber.paces <= most && on.footFits(climber.paces);
        }

        private boolean isOpen(Stair on, Climber climber, int stride) {
            if (climber.paces >= most || !climber.can(on, stride)) {
                return false;
            }
            return purpose != DUSTY || agreesWithDust(climber.at, climber.at + stride);
        }

        private boolean agreesWithDust(int from, int to) {
            if (from < 0 || to >= dusts.length || dusts[to] == UNTRODDEN) {
                return false;
            }
            for (int step = from + 1; step < to; step++) {
                if (dusts[step] == TRODDEN) {
                    return false;
                }
            }
            return true;
        }
    }

    /** A crowd that parts by moods. */
    private static final class Throng {
        final long[] trod = new long[MOST_STEPS + 1];
        long paces;
        private final Climber one = new Climber();
        private final int[] moods = new int[MOST_TOLD];
        private final int[] weights = new int[MOST_TOLD];
        private final long[] parts = new long[MOST_TOLD];
        // who are on each step by the same last stride, creaks and greats, all by as many strides
        private long[] groups = new long[64];
        private long known;
        private int lastKinds;
        private int creakKinds;
        private int greatKinds;

        void forget() {
            known = 0;
        }

        void goUp(Stair on, long many) {
            if (known == many) {
                return;
            }
            known = many;
            begin(on);
            trod[0] = many;
            groups[0] = many;
            for (int taken = 0; taken < on.top; taken++) {
                int highest = Math.min(on.top - 1, taken * on.longest());
                // from above, so that who goes on stands where all have gone already
                for (int step = highest; step >= taken; step--) {
                    passStep(on, step, taken);
                }
            }
        }

        private void begin(Stair on) {
            lastKinds = on.kindsOfStride + 1;
            creakKinds = on.creakKinds();
            greatKinds = on.greatKinds();
            int size = on.top * lastKinds * creakKinds * greatKinds;
            if (size > groups.length) {
                groups = new long[Math.max(size, 2 * groups.length)];
            }
            for (int i = 0; i < groups.length; i++) {
                groups[i] = 0;
            }
            for (int i = 0; i < trod.length; i++) {
                trod[i] = 0;
            }
            paces = 0;
        }

        private void passStep(Stair on, int step, int taken) {
            for (int kind = 0; kind < lastKinds && kind <= on.kindsOfStride; kind++) {
                int last = kind == 0 ? 0 : on.strides[kind - 1];
                boolean felt = false;
                for (int creaks = 0; creaks < creakKinds; creaks++) {
                    for (int greats = 0; greats < greatKinds; greats++) {
                        one.put(step, taken, last, creaks, greats);
                        int place = placeOf(on, one);
                        if (place < 0 || place >= groups.length || groups[place] == 0) {
                            continue;
                        }
                        if (!felt) {
                            one.feelMoods(on, moods);
                            felt = true;
                        }
                        long number = groups[place];
                        groups[place] = 0;
                        part(on, number);
                    }
                }
            }
        }

        private int placeOf(Stair on, Climber climber) {
            if (climber.last < 0 || climber.last > MOST_STRIDE) {
                return NONE;
            }
            int place = climber.at * lastKinds + on.places[climber.last];
            place = place * creakKinds + (creakKinds > 1 ? climber.creaks : 0);
            return place * greatKinds + (greatKinds > 1 ? climber.greats : 0);
        }

        private void part(Stair on, long number) {
            int all = one.keepPossible(on, moods, weights);
            if (all <= 0) {
                return;
            }
            long left = number;
            int first = NONE;
            for (int k = 0; k < on.kindsOfStride && k < parts.length; k++) {
                parts[k] = number * weights[k] / all;
                left -= parts[k];
                if (first == NONE && weights[k] > 0) {
                    first = k;
                }
            }
            for (int k = 0; k < on.kindsOfStride && k < parts.length; k++) {
                send(on, on.strides[k], k == first ? parts[k] + left : parts[k]);
            }
        }

        private void send(Stair on, int stride, long number) {
            if (number == 0) {
                return;
            }
            int step = one.at;
            int taken = one.paces;
            int last = one.last;
            int creaks = one.creaks;
            int greats = one.greats;
            one.go(on, stride);
            if (one.at < trod.length) {
                trod[one.at] += number;
            }
            paces += number;
            int place = placeOf(on, one);
            if (one.at < on.top && place >= 0 && place < groups.length) {
                groups[place] += number;
            }
            one.put(step, taken, last, creaks, greats);
        }
    }

    /** Two on one stair at once, one up, one down. */
    private static final class Pair {
        static final int WIDE = MOST_TWO + 1;
        private long[] met = new long[0];

        long pairs(Stair on) {
            if (on.top > MOST_TWO) {
                return NONE;
            }
            if (met.length == 0) {
                met = new long[WIDE * WIDE];
            }
            for (int i = 0; i < met.length; i++) {
                met[i] = 0;
            }
            met[on.top] = 1;
            for (int up = 0; up <= on.top; up++) {
                for (int down = on.top; down >= 0; down--) {
                    beat(on, up, down);
                }
            }
            return met[on.top * WIDE];
        }

        private void beat(Stair on, int up, int down) {
            long number = met[up * WIDE + down];
            if (number == 0 || up == on.top && down == 0) {
                return;
            }
            for (int i = 0; i < on.kindsOfStride; i++) {
                int higher = moved(on, up, i, on.top);
                for (int k = 0; k < on.kindsOfStride && higher != NONE; k++) {
                    int lower = moved(on, down, k, 0);
                    if (lower != NONE && lower != higher) {
                        met[higher * WIDE + lower] += number;
                    }
                }
            }
        }

        /** Where the k-th told stride leads; who has come stays there, and that is counted once. */
        private static int moved(Stair on, int at, int k, int goal) {
            if (at == goal) {
                return k == 0 ? at : NONE;
            }
            int to = goal == 0 ? at - on.strides[k] : at + on.strides[k];
            if (to < 0 || to > on.top || on.kinds[to] == BROKEN) {
                return NONE;
            }
            return to;
        }
    }

    /**
     * The fewest climbers that tread all trodden steps. Climbers may share steps, so they are chains
     * of trodden steps of which each can be reached from the one ahead; as many climbers are saved
     * as steps can be joined so, each to one ahead and to one behind.
     */
    private static final class Sweep {
        private final long[] reached = new long[MOST_STEPS + 1];
        private final int[] ahead = new int[MOST_STEPS + 1];
        private long tried;

        int fewestClimbers(Stair on, int[] dusts) {
            if (dusts.length <= on.top) {
                return NONE;
            }
            findReached(on, dusts);
            int climbers = 0;
            for (int step = 1; step < on.top; step++) {
                if (dusts[step] != TRODDEN) {
                    continue;
                }
                if (!leads(0, step) || !leads(step, on.top)) {
                    return NONE;
                }
                tried = 0;
                climbers += joins(on, dusts, step, 0) ? 0 : 1;
            }
            return climbers;
        }

        private void findReached(Stair on, int[] dusts) {
            for (int step = on.top; step >= 0; step--) {
                ahead[step] = NONE;
                reached[step] = 0;
                for (int k = 0; k < on.kindsOfStride; k++) {
                    int to = step + on.strides[k];
                    if (to <= on.top && on.kinds[to] != BROKEN && dusts[to] != UNTRODDEN) {
                        reached[step] |= reached[to] | 1L << to;
                    }
                }
            }
        }

        private boolean leads(int from, int to) {
            return (reached[from] >> to & 1L) != 0;
        }

        /** Joins a step to one behind it, others moving aside; each call open has tried one more step. */
        private boolean joins(Stair on, int[] dusts, int step, int depth) {
            if (depth > MOST_STEPS) {
                return false;
            }
            for (int to = step + 1; to < on.top; to++) {
                if (dusts[to] != TRODDEN || !leads(step, to) || (tried >> to & 1L) != 0) {
                    continue;
                }
                tried |= 1L << to;
                if (ahead[to] == NONE || joins(on, dusts, ahead[to], depth + 1)) {
                    ahead[to] = step;
                    return true;
                }
            }
            return false;
        }
    }

    /**
     * Rows of strides on plain stairs by rests: a power of x, cut by the law x^d = sum of x^(d - stride),
     * tells how the number for so many steps comes from the numbers for the first few.
     */
    private static final class Rests {
        private final long[] first = new long[MOST_STRIDE];
        private final long[] power = new long[MOST_STRIDE];
        private final long[] wide = new long[2 * MOST_STRIDE];

        int rest(Stair on, int steps, int number) {
            if (number < 1) {
                return 0;
            }
            findFirst(on, number);
            for (int i = 0; i < power.length; i++) {
                power[i] = i == 0 ? 1 % number : 0;
            }
            for (int bit = 29; bit >= 0; bit--) {
                square(on, number, steps >> bit & 1);
            }
            long sum = 0;
            for (int i = 0; i < on.longest() && i < power.length; i++) {
                sum += power[i] * first[i];
            }
            return (int) (sum % number);
        }

        private void findFirst(Stair on, int number) {
            for (int i = 0; i < first.length; i++) {
                first[i] = i == 0 ? 1 : 0;
                for (int k = 0; k < on.kindsOfStride; k++) {
                    int from = i - on.strides[k];
                    first[i] += from >= 0 ? first[from] : 0;
                }
                first[i] %= number;
            }
        }

        /** The power times itself, and once more by x where a shift of 1 is asked. */
        private void square(Stair on, int number, int shift) {
            int order = on.longest();
            if (order > MOST_STRIDE || shift < 0 || shift > 1 || number < 1) {
                return;
            }
            for (int i = 0; i < wide.length; i++) {
                wide[i] = 0;
            }
            for (int i = 0; i < order; i++) {
                for (int k = 0; k < order; k++) {
                    wide[i + k + shift] += power[i] * power[k];
                }
            }
            for (int high = 2 * order - 1; high >= order; high--) {
                long over = wide[high] % number;
                for (int k = 0; k < on.kindsOfStride; k++) {
                    wide[high - on.strides[k]] += over;
                }
            }
            for (int i = 0; i < order; i++) {
                power[i] = wide[i] % number;
            }
        }
    }

    /** Holds where one was by hand, and the dust. */
    private static final class Mark {
        final Climber climber = new Climber();
        final int[] dusts = new int[MOST_STEPS + 1];
        boolean laid;
    }
}
