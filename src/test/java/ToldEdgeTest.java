/** The boundary cases of the STAIR's language and of its FAULTS, a method for each sentence of the document that names one (promise 3). */
public final class ToldEdgeTest {
    private static final Due due = new Due("ToldEdgeTest");
    private static final String[] STEPS = {"broken", "creak", "landing"};

    public static void main(String[] args) {
        stairFirst();
        stairSteps();
        strideNumbers();
        howManyStrides();
        withoutStrides();
        steps();
        eachStepOnce();
        creaks();
        howManyBars();
        barNumbers();
        eachBarOnce();
        foot();
        count();
        great();
        onceEach();
        anyNumberOfOthers();
        endsOfLines();
        fromTheLeft();
        facts();
        truth();
        within();
        wraps();
        withoutMood();
        firstTokenThatIsWrong();
        leastKind();
        faultLeavesAll();
        rightBeginsAnew();
        due.end();
    }

    private static void right(String text) {
        due.is("fault of '" + text + "'", 0, Due.read(new StairWays(), text));
    }

    /** The last token of the text is the wrong one; more behind it changes nothing. */
    private static void wrong(int kind, String text) {
        int want = kind + 16 * (text.lastIndexOf(' ') + 1);
        due.is("fault of '" + text + "'", want, Due.read(new StairWays(), text));
        due.is("fault of '" + text + " ; ?'", want, Due.read(new StairWays(), text + " ; ?"));
    }

    /** The text's end is wrong. */
    private static void cut(String text) {
        due.is("fault of '" + text + "'", 1 + 16 * text.length(), Due.read(new StairWays(), text));
        due.is("fault of '" + text + " \\n'", 1 + 16 * (text.length() + 2), Due.read(new StairWays(), text + " \n"));
    }

    /** "stair N ; first"; "another line than stair first, stair again" is 1. */
    private static void stairFirst() {
        for (String line : new String[] {"strides", "broken", "creak", "creaks", "landing", "bar", "foot", "count", "great", "mood", "to", "not"}) {
            wrong(1, line);
            wrong(1, "\n " + line);
        }
        wrong(1, "stair 9 ; stair");
        wrong(1, "stair 9 ; creaks 1 ; stair");
        cut("");
        cut("stair");
        cut("stair 9");
    }

    /** "(1 to 40 steps)". */
    private static void stairSteps() {
        for (int steps = 1; steps <= 40; steps++) {
            due.is("steps", steps, Due.on("stair " + steps + " ;").count(0));
        }
        wrong(4, "stair 0");
        wrong(4, "stair 41");
        wrong(4, "stair 9999");
        wrong(1, "stair ;");
        wrong(1, "stair -");
        wrong(1, "stair stair");
    }

    /** "strides: ... 1 to 12". */
    private static void strideNumbers() {
        for (int stride = 1; stride <= 12; stride++) {
            StairWays x = Due.on("stair 12 ; strides " + stride + " ;");
            for (int other = 0; other <= 13; other++) {
                due.is("may " + other + " by " + stride, other == stride, x.may(other));
            }
        }
        wrong(4, "stair 12 ; strides 0");
        wrong(4, "stair 12 ; strides 13");
        wrong(4, "stair 12 ; strides 1 0");
        wrong(4, "stair 12 ; strides 12 13");
        wrong(4, "stair 12 ; strides 9999");
        right("stair 1 ; strides 12 ;");
    }

    /** "1 to 6 unlike ones"; "a stride told already" is 3, "the seventh stride" is 5. */
    private static void howManyStrides() {
        wrong(1, "stair 12 ; strides ;");
        cut("stair 12 ; strides");
        cut("stair 12 ; strides 4");
        StringBuilder text = new StringBuilder("stair 40 ; strides");
        for (int number = 1; number <= 6; number++) {
            text.append(' ').append(13 - 2 * number);
            StairWays x = Due.on(text + " ;");
            due.is("strides of '" + text + "'", number, x.count(5));
            due.is("the first one counts", true, x.may(11));
            due.is("the last one counts", true, x.may(13 - 2 * number));
            wrong(3, text + " 11");
            wrong(3, text + " " + (13 - 2 * number));
            if (number < 6) {
                right(text + " 12 ;");
            }
        }
        wrong(5, text + " 12");
        wrong(5, text + " 2");
        cut(text.toString());
    }

    /** "(1 and 2 without a line)". */
    private static void withoutStrides() {
        StairWays x = Due.on("stair 12 ; broken 5 ;");
        due.is("told strides", 2, x.count(5));
        for (int stride = 0; stride <= 13; stride++) {
            due.is("may " + stride, stride == 1 || stride == 2, x.may(stride));
        }
        due.is("after another stair with a line", 0, Due.read(x, "stair 12 ; strides 7 ;"));
        due.is("told strides", 1, x.count(5));
        due.is("without again", 0, Due.read(x, "stair 12 ;"));
        due.is("told strides", 2, x.count(5));
        due.is("may 7", false, x.may(7));
    }

    /** "broken, creak, landing: steps (1 to one less than there are)". */
    private static void steps() {
        for (int kind = 1; kind <= 3; kind++) {
            String line = STEPS[kind - 1];
            for (int top : new int[] {2, 3, 9, 40}) {
                String head = "stair " + top + " ; " + line;
                due.is(line + " 1 of " + top, kind, Due.on(head + " 1 ;").step(1, 0));
                due.is(line + " just below the top of " + top, kind, Due.on(head + " " + (top - 1) + " ;").step(top - 1, 0));
                wrong(4, head + " 0");
                wrong(4, head + " " + top);
                wrong(4, head + " " + (top + 1));
                wrong(1, head + " ;");
                wrong(1, head + " 1 1");
                cut(head);
                cut(head + " 1");
            }
            wrong(4, "stair 1 ; " + line + " 0");
            wrong(4, "stair 1 ; " + line + " 1");
        }
    }

    /** "each step told once by one of these at most"; "a step told already" is 3. */
    private static void eachStepOnce() {
        for (String one : STEPS) {
            for (String other : STEPS) {
                wrong(3, "stair 9 ; " + one + " 1 ; " + other + " 1");
                wrong(3, "stair 9 ; " + one + " 8 ; creaks 1 ; " + other + " 8");
                right("stair 9 ; " + one + " 4 ; " + other + " 5 ;");
            }
        }
        StringBuilder all = new StringBuilder("stair 40 ;");
        for (int step = 1; step < 40; step++) {
            all.append(' ').append(STEPS[step % 3]).append(' ').append(step).append(" ;");
        }
        StairWays x = Due.on(all.toString());
        for (int step = 1; step < 40; step++) {
            due.is("kind of step " + step, step % 3 + 1, x.step(step, 0));
        }
        wrong(3, all + " broken 39");
        wrong(3, all + " creak 1");
    }

    /** "creaks: 0 to 4": so many creak steps are trodden, and not one more. */
    private static void creaks() {
        for (int limit = 0; limit <= 4; limit++) {
            StairWays x = Due.on("stair 9 ; creak 1 ; creak 2 ; creak 3 ; creak 4 ; creak 5 ; creaks " + limit + " ; strides 1 ;");
            for (int trodden = 0; trodden < limit; trodden++) {
                due.is("creak " + trodden + " of " + limit, true, x.stride(1));
            }
            due.is("a creak more than " + limit, false, x.stride(1));
            due.is("creaks trodden", limit, x.count(3));
        }
        wrong(4, "stair 9 ; creaks 5");
        wrong(4, "stair 9 ; creaks 9999");
        wrong(1, "stair 9 ; creaks ;");
        wrong(1, "stair 9 ; creaks 0 0");
        cut("stair 9 ; creaks");
        cut("stair 9 ; creaks 4");
    }

    private static String bars(int number) {
        StringBuilder text = new StringBuilder("stair 9 ;");
        for (int i = 1; i <= number; i++) {
            text.append(" bar ").append(i).append(' ').append(13 - i).append(" ;");
        }
        return text.toString();
    }

    /** "bar: 8 at most"; "the word bar of a ninth" is 5, whatever stands behind it. */
    private static void howManyBars() {
        for (int number = 0; number <= 8; number++) {
            due.is("bars", number, Due.on(bars(number)).count(6));
        }
        wrong(5, bars(8) + " bar");
        due.is("at the word", 5 + 16 * (bars(8).length() + 1), Due.read(new StairWays(), bars(8) + " bar 1 12 ;"));
        due.is("at the word", 5 + 16 * (bars(8).length() + 1), Due.read(new StairWays(), bars(8) + " bar 13 ;"));
        right(bars(8) + " foot left ;");
        StairWays x = Due.on(bars(8));
        due.is("bars of the next stair begin anew", 0, Due.read(x, bars(8)));
    }

    /** "of numbers 1 to 12 each", be they told as strides or not. */
    private static void barNumbers() {
        for (int number = 1; number <= 12; number++) {
            due.is("bar " + number, 1, Due.on("stair 9 ; bar " + number + " " + (13 - number) + " ;").count(6));
        }
        wrong(4, "stair 9 ; bar 0");
        wrong(4, "stair 9 ; bar 13");
        wrong(4, "stair 9 ; bar 9999");
        wrong(4, "stair 9 ; bar 1 0");
        wrong(4, "stair 9 ; bar 12 13");
        wrong(4, "stair 9 ; bar 12 9999");
        wrong(1, "stair 9 ; bar ;");
        wrong(1, "stair 9 ; bar 1 ;");
        wrong(1, "stair 9 ; bar 1 2 3");
        cut("stair 9 ; bar");
        cut("stair 9 ; bar 1");
        cut("stair 9 ; bar 1 2");
        StairWays x = Due.on("stair 40 ; strides 12 11 ; bar 12 12 ; bar 11 12 ;");
        due.is("12", true, x.stride(12));
        due.is("12 behind 12", false, x.may(12));
        due.is("11", true, x.stride(11));
        due.is("12 behind 11", false, x.may(12));
        due.is("11 behind 11", true, x.may(11));
    }

    /** "each two once, this way round"; "a bar's second number of two told already" is 3. */
    private static void eachBarOnce() {
        right("stair 9 ; bar 1 2 ; bar 2 1 ;");
        right("stair 9 ; bar 1 2 ; bar 1 12 ; bar 11 2 ;");
        wrong(3, "stair 9 ; bar 1 2 ; bar 1 2");
        wrong(3, "stair 9 ; bar 2 1 ; bar 1 2 ; bar 2 1");
        wrong(3, "stair 9 ; bar 12 12 ; bar 12 12");
        wrong(3, "stair 9 ; bar 1 1 ; foot left ; bar 1 1");
        StairWays x = Due.on("stair 9 ; bar 1 2 ;");
        due.is("2", true, x.stride(2));
        due.is("1 behind 2 is not barred", true, x.stride(1));
        due.is("2 behind 1 is barred", false, x.stride(2));
    }

    /** "foot left ; foot right ;": nothing else. */
    private static void foot() {
        right("stair 9 ; foot left ;");
        right("stair 9 ; foot right ;");
        for (String other : new String[] {"lef", "lefts", "rights", "foot", "1", ";", "(", "Left"}) {
            wrong(1, "stair 9 ; foot " + other);
        }
        wrong(1, "stair 9 ; foot left left");
        cut("stair 9 ; foot");
        cut("stair 9 ; foot left");
    }

    /** "count: strides in all from one number (0 to 40) to another one (no less, to 40)". */
    private static void count() {
        for (int from : new int[] {0, 1, 20, 39, 40}) {
            for (int to : new int[] {0, 1, 19, 20, 21, 38, 39, 40, 41, 9999}) {
                String text = "stair 40 ; count " + from + " to " + to;
                if (to < from || to > 40) {
                    wrong(4, text);
                } else {
                    right(text + " ;");
                }
            }
        }
        wrong(4, "stair 9 ; count 41");
        wrong(4, "stair 9 ; count 9999");
        wrong(1, "stair 9 ; count to");
        wrong(1, "stair 9 ; count 3 ;");
        wrong(1, "stair 9 ; count 3 times");
        wrong(1, "stair 9 ; count 3 to to");
        wrong(1, "stair 9 ; count 3 to 3 to");
        cut("stair 9 ; count");
        cut("stair 9 ; count 3");
        cut("stair 9 ; count 3 to");
        cut("stair 9 ; count 3 to 3");
        due.is("forty strides", 1, Due.on("stair 40 ; count 40 to 40 ;").many());
        due.is("no stride", 0, Due.on("stair 1 ; count 0 to 0 ;").many());
    }

    /** "great: 1 to 12, times 0 to 4": so many, and not one more. */
    private static void great() {
        for (int times = 0; times <= 4; times++) {
            for (int great = 1; great <= 12; great++) {
                StairWays x = Due.on("stair 40 ; strides 6 1 5 7 ; great " + great + " times " + times + " ;");
                for (int i = 0; i < times; i++) {
                    due.is("great ones", great <= 6 ? i : 0, x.count(4));
                    due.is("6 by great " + great + " times " + times, true, x.stride(6));
                }
                due.is("one more by great " + great + " times " + times, great > 6, x.may(6));
                due.is("a lesser one", great > 5, x.may(5));
                due.is("a greater one", great > 7 || great == 7 && times > 0, x.may(7));
            }
        }
        wrong(4, "stair 9 ; great 0");
        wrong(4, "stair 9 ; great 13");
        wrong(4, "stair 9 ; great 12 times 5");
        wrong(4, "stair 9 ; great 12 times 9999");
        wrong(1, "stair 9 ; great times");
        wrong(1, "stair 9 ; great 3 to");
        wrong(1, "stair 9 ; great 3 3");
        wrong(1, "stair 9 ; great 3 times ;");
        wrong(1, "stair 9 ; great 3 times 1 1");
        cut("stair 9 ; great");
        cut("stair 9 ; great 3");
        cut("stair 9 ; great 3 times");
        cut("stair 9 ; great 3 times 1");
    }

    /** "strides, creaks, foot, count, great, mood: once each"; "a second time" is 3, at the word. */
    private static void onceEach() {
        String[] lines = {"strides 1 ;", "creaks 0 ;", "foot left ;", "count 0 to 0 ;", "great 1 times 0 ;", "mood 0 ;"};
        for (String one : lines) {
            String word = one.substring(0, one.indexOf(' '));
            wrong(3, "stair 9 ; " + one + " " + word);
            for (String other : lines) {
                if (!one.equals(other)) {
                    right("stair 9 ; " + one + " " + other);
                    wrong(3, "stair 9 ; " + one + " " + other + " " + word);
                }
            }
            StairWays x = Due.on("stair 9 ; " + one);
            due.is("once again on the next stair", 0, Due.read(x, "stair 9 ; " + one));
            due.is("a fault", 1 + 16 * 10, Due.read(x, "stair 9 ; ?"));
            due.is("once again behind a fault", 0, Due.read(x, "stair 9 ; " + one));
        }
    }

    /** "then any number of": none, and as many as the tape holds. */
    private static void anyNumberOfOthers() {
        right("stair 9 ;");
        StringBuilder text = new StringBuilder("stair 40;strides 1 2 3 4 5 6;creaks 4;foot right;count 0 to 40;great 4 times 4;mood step;");
        for (int i = 1; i <= 8; i++) {
            text.append("bar 12 ").append(i).append(';');
        }
        for (int step = 1; step < 40; step++) {
            text.append("creak ").append(step).append(';');
        }
        StairWays x = Due.on(text.toString());
        due.is("strides", 6, x.count(5));
        due.is("bars", 8, x.count(6));
        due.is("creak", 2, x.step(39, 0));
    }

    /** Each line ends with ';' and with nothing else. */
    private static void endsOfLines() {
        for (String line : new String[] {"strides 1", "broken 1", "creak 1", "landing 1", "creaks 1", "bar 1 1", "foot left", "count 1 to 1", "great 1 times 1", "mood 1"}) {
            right("stair 9 ; " + line + " ;");
            cut("stair 9 ; " + line);
            for (String other : new String[] {"broken", ":", ")", "to", "12345"}) {
                wrong(1, "stair 9 ; " + line + " " + other);
            }
            wrong(1, "stair 9 ; " + line + " ; ;");
        }
    }

    private static void weighs(int want, String mood) {
        due.is("weight by " + mood, want, Due.on("stair 9 ; mood " + mood + " ;").weight(2));
    }

    /** "E: TEST { and TEST or or TEST }, from the left"; sums from the left; products first; one < or = in a TEST. */
    private static void fromTheLeft() {
        weighs(0, "1 or 1 and 0");
        weighs(1, "0 and 0 or 1");
        weighs(1, "0 and 1 or 1");
        weighs(1, "1 or ( 1 and 0 )");
        weighs(2, "9 - 4 - 3");
        weighs(8, "9 - 4 + 3");
        weighs(8, "9 - ( 4 - 3 )");
        weighs(7, "1 + 2 * 3");
        weighs(5, "9 - 2 * 2");
        weighs(8, "2 * 3 + 2");
        weighs(8, "2 * 2 * 2");
        weighs(1, "1 + 1 < 3 * 1");
        weighs(1, "2 = 1 + 1 and 3 < 4");
        weighs(1, "( 1 < 2 ) < 2");
        weighs(0, "( 3 < 2 ) = 1");
        wrong(1, "stair 9 ; mood 1 < 2 <");
        wrong(1, "stair 9 ; mood 1 = 1 =");
        wrong(1, "stair 9 ; mood 1 < 2 and 2 = 2 <");
        wrong(1, "stair 9 ; mood ( 1 < 2 =");
    }

    /** "last (the stride ahead, 0 at first), step (where one is, 0 the foot), taken (how many strides)". */
    private static void facts() {
        weighs(2, "stride");
        weighs(0, "last");
        weighs(0, "step");
        weighs(0, "taken");
        weighs(4, "stride + last + step + taken + 2");
        StairWays x = Due.on("stair 40 ; strides 1 12 ; mood stride * 0 + last - 3 ;");
        x.stride(12);
        due.is("last 12", 9, x.weight(1));
        x.stride(1);
        due.is("last 1", 0, x.weight(1));
        x = Due.on("stair 40 ; strides 1 ; mood step - 30 ;");
        StairWays y = Due.on("stair 40 ; strides 1 ; mood taken - 30 ;");
        for (int step = 0; step < 40; step++) {
            int want = Math.max(0, Math.min(9, step - 30));
            due.is("step " + step, want, x.weight(1));
            due.is("taken " + step, want, y.weight(1));
            x.stride(1);
            y.stride(1);
        }
    }

    /** "Of not, and, or, < and = comes 1 or 0; what is not 0 is so": a number below 0, too. */
    private static void truth() {
        weighs(3, "3 * ( 7 and 8 )");
        weighs(3, "3 * ( 0 or 8 )");
        weighs(3, "3 * ( 8 or 0 )");
        weighs(0, "0 or 0");
        weighs(0, "7 and 0");
        weighs(0, "0 and 7");
        weighs(3, "3 * not 0");
        weighs(0, "3 * not 2");
        weighs(0, "not ( 0 - 1 )");
        weighs(1, "0 - 1 and 0 - 2");
        weighs(1, "0 or 0 - 1");
        weighs(3, "3 * ( 1 < 2 )");
        weighs(3, "3 * ( 2 = 2 )");
        weighs(0, "3 * ( 2 < 2 )");
        weighs(0, "2 < 1");
        weighs(1, "0 - 1 < 0");
        weighs(3, "not 0 * 3");
        weighs(0, "not 1 * 3");
        weighs(2, "not 0 + 1");
    }

    private static String nested(int depth, String opens, String inner, String closes) {
        return opens.repeat(depth) + inner + closes.repeat(depth);
    }

    /** "no PART lies within 5 of not and ( )"; "not, or a PART, within 5 others" is 5. */
    private static void within() {
        for (int depth = 0; depth <= 4; depth++) {
            weighs(7, nested(depth, "( ", "7", " )"));
            weighs(depth == 0 ? 7 : depth % 2 == 0 ? 1 : 0, nested(depth, "not ", "7", ""));
        }
        for (String inner : new String[] {"1", "stride", "last", "step", "taken", "not", "("}) {
            wrong(5, "stair 9 ; mood " + nested(5, "( ", inner, ""));
            wrong(5, "stair 9 ; mood " + nested(5, "not ", inner, ""));
            wrong(5, "stair 9 ; mood ( not ( not ( " + inner);
            wrong(5, "stair 9 ; mood 1 + ( 2 * ( 3 < ( 4 = ( 5 and ( " + inner);
            wrong(5, "stair 9 ; mood ( ( ( ( 1 ) ) ) ) * ( ( ( ( ( " + inner);
        }
        // one that has been closed is none of those around the next
        weighs(9, "( ( ( ( 3 ) ) ) ) * ( ( ( ( 3 ) ) ) )");
        weighs(1, "not not not not 1 and not not not not 1");
        weighs(2, "( not ( not 1 + ( 1 ) ) ) + ( ( ( 2 ) ) )");
        // all that can wait at once does so within four others: 1 and ( 0 < 1 + 2 * .. )
        weighs(1, nested(4, "1 and 0 < 1 + 2 * ( ", "1 and 0 < 1 + 2 * 3", " )"));
        weighs(9, nested(4, "1 + 1 * ( ", "1 + 2 * 2", " )"));
        weighs(6, nested(4, "0 + 1 * ( ", "0 + 2 * 3", " )"));
        weighs(0, nested(4, "1 and 0 < 0 + 2 * ( ", "1 and 7 < 1 + 2 * 3", " )"));
    }

    // 9999 * 9999 * 21 + 9999 * 4790 + 8416
    private static final String MOST = "9999 * 9999 * 21 + 9999 * 4790 + 8416";

    /** "ints wrap": sums, differences and products beyond an int on either side. */
    private static void wraps() {
        weighs(1, MOST + " = 0 - 1 - ( " + MOST + " + 1 )");
        weighs(9, MOST);
        weighs(0, MOST + " + 1");
        weighs(1, MOST + " + 1 < 0");
        weighs(1, MOST + " + 1 - 1 = " + MOST);
        weighs(0, "0 - ( " + MOST + " + 1 )");
        weighs(0, "0 - ( " + MOST + " ) - 1");
        weighs(9, "0 - ( " + MOST + " ) - 2");
        weighs(2, "( " + MOST + " ) * 2 + 4");
        weighs(0, "( " + MOST + " + 1 ) * 2");
        weighs(5, "( " + MOST + " + 1 ) * 2 + 5");
        weighs(3, "8192 * 8192 * 64 + 3");
        weighs(1, "not ( 8192 * 8192 * 64 )");
        // 9999 ^ 3 is 232 times 2 ^ 32 and 999700029999 - 232 * 4294967296 more, below 2 ^ 32 but not below 2 ^ 31
        weighs(0, "9999 * 9999 * 9999");
        weighs(1, "9999 * 9999 * 9999 < 0");
    }

    /** "Without a line it is 1." */
    private static void withoutMood() {
        StairWays x = Due.on("stair 9 ; strides 1 2 12 ;");
        due.is("1", 1, x.weight(1));
        due.is("2", 1, x.weight(2));
        due.is("after a stair with one", 0, Due.read(x, "stair 9 ; mood 7 ;"));
        due.is("7", 7, x.weight(1));
        due.is("without again", 0, Due.read(x, "stair 9 ;"));
        due.is("1", 1, x.weight(1));
    }

    /** "of the first token from the left that is wrong": what is wrong behind it does not matter. */
    private static void firstTokenThatIsWrong() {
        String[] texts = {"stair 41 ; stair", "stair 9 ; strides 1 1 13 0 ; strides", "stair 9 ; creaks 5 ; creaks 5", "stair 9 ; bar 13 13", "stair 9 ; count 41 to 2",
            "stair 9 ; great 13 times 5", "stair 9 ; foot up down", "stair 9 ; mood pace < pace"};
        int[] kinds = {4, 3, 4, 4, 4, 4, 1, 1};
        int[] places = {6, 20, 17, 14, 16, 16, 15, 15};
        for (int i = 0; i < texts.length; i++) {
            due.is("fault of '" + texts[i] + "'", kinds[i] + 16 * places[i], Due.read(new StairWays(), texts[i]));
        }
    }

    /** "that is wrong the least": of several kinds at one token. */
    private static void leastKind() {
        wrong(3, "stair 9 ; strides 1 2 3 4 5 6 1");
        wrong(3, "stair 9 ; strides 1 2 3 4 5 6 6");
        wrong(4, "stair 9 ; strides 1 2 3 4 5 6 0");
        wrong(4, "stair 9 ; strides 1 2 3 4 5 6 13");
        wrong(1, "stair 9 ; strides 1 2 3 4 5 6 12345");
        wrong(1, "stair 9 ; strides 1 2 3 4 5 6 strides");
        for (String inner : new String[] {";", ")", "and", "or", "<", "=", "+", "-", "*", "12345", "?", "foot", "abcdefghi"}) {
            wrong(1, "stair 9 ; mood " + nested(5, "not ", inner, ""));
            wrong(1, "stair 9 ; mood " + nested(5, "( ", inner, ""));
        }
        cut("stair 9 ; mood not not not not not");
        cut("stair 9 ; mood ( ( ( ( (");
    }

    private static StairWays scene() {
        StairWays x = Due.on("stair 9 ; strides 1 2 3 ; broken 4 ; creak 2 ; creaks 2 ; bar 3 3 ; great 3 times 2 ; mood stride + last ;");
        x.dust(5, 1);
        x.stride(2);
        x.mark(1, false);
        x.stride(1);
        x.dust(6, 2);
        return x;
    }

    /** "0, or its FAULT (all stays then)": be it found at the first or at the last token. */
    private static void faultLeavesAll() {
        String all = "stair 7 ; strides 2 5 ; broken 1 ; creak 3 ; landing 4 ; creaks 1 ; bar 2 2 ; foot left ; count 1 to 3 ; great 2 times 1 ; mood 1 ;";
        String want = Sight.of(scene());
        for (int length = 0; length <= all.length(); length++) {
            StairWays x = scene();
            String text = all.substring(0, length) + " !";
            due.is("'" + text + "' is wrong", true, Due.read(x, text) != 0);
            due.is("all stays behind '" + text + "'", true, Sight.of(x).equals(want));
        }
    }

    /** All is asked, so that all that is kept of it is there. */
    private static void askAll(StairWays x) {
        x.many();
        x.game();
        x.fit();
        x.manyOf(3);
        x.crowd(1000003, 1);
        x.two();
        x.fewest();
        x.nth(0, 0);
        x.climb(17, 1);
        x.plain(123456, 9999);
        x.many();
    }

    private static StairWays filled() {
        StairWays x = scene();
        for (int mark = 0; mark < 4; mark++) {
            x.mark(mark, false);
        }
        for (int step = 1; step < 9; step++) {
            x.dust(step, 1 + step % 2);
        }
        askAll(x);
        return x;
    }

    /** "Without a FAULT it is the STAIR from then on: one stands at the foot, no dust, no MARK is there." */
    private static void rightBeginsAnew() {
        String[] texts = {"stair 9 ;", "stair 1 ;", "stair 40 ; strides 12 ; mood 0 ;", "stair 9 ; strides 1 12 ;", "stair 9 ; count 0 to 9 ; great 2 times 1 ;",
            "stair 9 ; strides 1 2 3 ; broken 4 ; creak 2 ; creaks 2 ; bar 3 3 ; great 3 times 2 ; mood stride + last ;",
            "stair 9 ; strides 9 8 7 6 5 4 ; broken 3 ; landing 8 ; creaks 0 ; bar 12 12 ; bar 1 1 ; foot left ; count 7 to 8 ; great 1 times 0 ; mood 0 ;"};
        for (String text : texts) {
            String want = Sight.of(Due.on(text));
            StairWays x = filled();
            due.is("right", 0, Due.read(x, text));
            due.is("nothing is left behind '" + text + "'", true, Sight.of(x).equals(want));
            for (String other : texts) {
                // one, another one and a wrong one ahead of it, the last of all as full as can be
                x = filled();
                due.is("right", 0, Due.read(x, other));
                askAll(x);
                due.is("right", 0, Due.read(x, other));
                askAll(x);
                due.is("wrong", true, Due.read(x, texts[6] + " ?") != 0);
                due.is("right", 0, Due.read(x, text));
                due.is("nothing is left of '" + other + "' behind '" + text + "'", true, Sight.of(x).equals(want));
            }
        }
    }
}
