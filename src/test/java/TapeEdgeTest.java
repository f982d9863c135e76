import java.util.function.IntFunction;

/** The boundary cases of the TAPE and of TOKENS, a method for each sentence of the document that names one (promises 1 to 3). */
public final class TapeEdgeTest {
    private static final Due due = new Due("TapeEdgeTest");

    public static void main(String[] args) {
        atFirst();
        signs();
        placesOfBytes();
        mostSigns();
        beyondIsLeftOut();
        fullTapeIsRead();
        readingTakes();
        words();
        numbers();
        letterBehindNumber();
        asLongAsCanBe();
        blanks();
        elseIsNone();
        due.end();
    }

    private static int place(int kind, int place) {
        return kind + 16 * place;
    }

    private static String times(int number, String text) {
        return text.repeat(number);
    }

    private static void fault(String text, int want) {
        due.is("fault of '" + text + "'", want, Due.read(new StairWays(), text));
    }

    /** "At first: stair 1, nothing else." It is the same as if just that had been told. */
    private static void atFirst() {
        due.is("a new object is a stair of one step", true, Sight.of(new StairWays()).equals(Sight.of(Due.on("stair 1 ;"))));
        StairWays x = new StairWays();
        due.is("no step between", false, x.dust(1, 1));
        due.is("the foot is plain", 0, x.step(0, 0));
        due.is("the top is plain", 0, x.step(1, 0));
        due.is("nothing above", -1, x.step(2, 0));
        due.is("one stride to the top", true, x.stride(1));
        due.is("lawful", 0, x.lawful());
        due.is("rank", 0, x.rank());
    }

    /** "others than 10 and 32 .. 126 ... are left out": every byte there is. */
    private static void signs() {
        for (int sign = 0; sign < 256; sign++) {
            StairWays x = new StairWays();
            boolean taken = sign == 10 || sign >= 32 && sign <= 126;
            due.is("feed of byte " + sign, taken ? 1 : 0, x.feed(sign, 0, 0));
            due.is("count of byte " + sign, taken ? 1 : 0, x.count(7));
        }
        for (int sign : new int[] {9, 11, 31, 127, 128, 138, 160, 254, 255}) {
            StairWays x = new StairWays();
            long eight = sign * 0x0101010101010101L;
            due.is("24 bytes " + sign, 0, x.feed(eight, eight, eight));
        }
        for (int sign : new int[] {10, 32, 126}) {
            StairWays x = new StairWays();
            long eight = sign * 0x0101010101010101L;
            due.is("24 bytes " + sign, 24, x.feed(eight, eight, eight));
        }
    }

    /** "Up to 24 signs: the bytes of a, b, c, of each the highest first": a strange sign is found at each of the 24 places. */
    private static void placesOfBytes() {
        for (int place = 0; place < 24; place++) {
            long[] parts = {0x2020202020202020L, 0x2020202020202020L, 0x2020202020202020L};
            int shift = 56 - 8 * (place % 8);
            parts[place / 8] ^= 0x20L << shift;
            parts[place / 8] |= 0x21L << shift;
            StairWays x = new StairWays();
            due.is("signs", 24, x.feed(parts[0], parts[1], parts[2]));
            due.is("byte " + place, place(1, place), x.stair());
        }
        StairWays x = new StairWays();
        due.is("bytes left out leave no gap", 3, x.feed(0x20FF200000000000L, 0, 0x21));
        due.is("the third sign", place(1, 2), x.stair());
    }

    /** "The TAPE has at most 1,000 signs": 999, 1,000, and not one more. */
    private static void mostSigns() {
        StairWays x = new StairWays();
        due.is("999", 999, Due.feed(x, times(999, " ")));
        due.is("nothing comes", 999, x.feed(0, 0, 0));
        due.is("1,000", 1000, x.feed(0, 0x2000, 0));
        due.is("full", 1000, x.feed(0x20, 0, 0));
        due.is("full", 1000, x.feed(-1, 0, 0));
        due.is("count", 1000, x.count(7));
    }

    /** "what is beyond 1,000 [is] left out": the first ones of a feed come still. */
    private static void beyondIsLeftOut() {
        IntFunction<StairWays> filled = length -> {
            StairWays x = new StairWays();
            Due.feed(x, times(length, " "));
            return x;
        };
        for (int length = 976; length <= 1000; length++) {
            StairWays x = filled.apply(length);
            due.is("feed behind " + length, 1000, Due.feed(x, "stair 3 ; strides 3 ; ! "));
            int fault = x.stair();
            // cut within: the end is at 1,000; behind "stair 3 ;" or "stair 3 ; strides 3 ;" it is whole
            int left = 1000 - length;
            boolean whole = left == 9 || left == 10 || left == 21 || left == 22;
            boolean bang = left >= 23;
            boolean cutWord = left > 0 && left < 5 || left > 10 && left < 17;
            int want = whole ? 0 : bang ? place(1, length + 22) : cutWord ? place(1, length + (left < 5 ? 0 : 10)) : place(1, 1000);
            due.is("read behind " + length, want, fault);
        }
    }

    /** The full tape is read to its last sign; its end is a token at 1,000. */
    private static void fullTapeIsRead() {
        String head = "stair 5 ;";
        fault(head + times(990, " ") + "\n", 0);
        fault(times(991, "\n") + head, 0);
        fault(times(992, " ") + head, place(1, 1000));
        fault(times(1000, " "), place(1, 1000));
        fault(head + times(990, " ") + "?", place(1, 999));
        fault(head + times(991, " ") + "?", 0);
        StringBuilder sum = new StringBuilder("stair 9;mood 0");
        int ones = 0;
        while (sum.length() + 2 < 994) {
            sum.append("+1");
            ones++;
        }
        StairWays x = Due.on(sum + "-" + (ones - 7) + ";");
        due.is("a sum as long as the tape", 7, x.weight(1));
    }

    /** "what reads it takes it: it is empty then", be there a fault or not. */
    private static void readingTakes() {
        StairWays x = new StairWays();
        due.is("right", 0, Due.read(x, "stair 5 ;"));
        due.is("empty", 0, x.count(7));
        due.is("empty is a fault at its end", place(1, 0), x.stair());
        due.is("wrong", place(4, 6), Due.read(x, "stair 41 ;"));
        due.is("empty", 0, x.count(7));
        due.is("the next ones stand at its beginning", 3, x.feed(0x2020210000000000L, 0, 0));
        due.is("from 0 again", place(1, 2), x.stair());
        due.is("the stair stays", 5, x.count(0));
        Due.feed(x, times(1000, "!"));
        due.is("full", place(1, 0), x.stair());
        due.is("as much comes again", 1000, Due.feed(x, times(1000, " ")));
    }

    /** "WORDS (letters a .. z, 8 at most)": a longer one is none at its first sign. */
    private static void words() {
        for (int length = 1; length <= 40; length++) {
            fault("stair 9 ; " + times(length, "z") + " ;", place(1, 10));
        }
        fault("stair 9 ; stridess 1 ;", place(1, 10));
        fault("stair 9 ; stridesst 1 ;", place(1, 10));
        fault("stair 9 ; mood steptaken ;", place(1, 15));
        fault("stair 9 ; mood laststeps ;", place(1, 15));
        fault("stair 9 ; mood not not not not not steptaken", place(1, 35));
        for (char sign : new char[] {'A', 'S', 'Z', '`', '{', '_', '@', '['}) {
            fault("stair 9 ; " + sign + "broken 1 ;", place(1, 10));
            fault("stair 9 ; broken" + sign + " 1 ;", place(1, 16));
        }
        for (char letter = 'a'; letter <= 'z'; letter++) {
            fault("stair 9 ; " + letter + "broken 1 ;", place(1, 10));
            fault("stair 9 ; broken" + letter + " 1 ;", place(1, 10));
        }
        String lines = "stair 9 ; strides 1 ; broken 1 ; creak 2 ; landing 3 ; creaks 1 ; bar 1 1 ; foot left ; count 1 to 2 ; great 3 times 1 ;"
            + " mood not stride and last or step < taken ;";
        fault(lines, 0);
        fault(lines.replace("left", "right"), 0);
        for (int at = 0; at < lines.length(); at++) {
            if (lines.charAt(at) >= 'a' && lines.charAt(at) <= 'z') {
                // the word that begins behind the blank ahead has one letter that is another
                int begin = lines.lastIndexOf(' ', at) + 1;
                fault(lines.substring(0, at) + "q" + lines.substring(at + 1), place(1, begin));
            }
        }
    }

    /** "NUMBERS (1 to 4 digits)": a longer one is none at its first sign, be it as small as it may. */
    private static void numbers() {
        fault("stair 9 ;", 0);
        fault("stair 09 ;", 0);
        fault("stair 009 ;", 0);
        fault("stair 0009 ;", 0);
        fault("stair 00009 ;", place(1, 6));
        fault("stair 0000 ;", place(4, 6));
        fault("stair 00000 ;", place(1, 6));
        fault("stair 9999 ;", place(4, 6));
        fault("stair 10000 ;", place(1, 6));
        fault("stair 4294967305 ;", place(1, 6));
        fault("stair " + times(900, "0") + "9 ;", place(1, 6));
        fault("stair 9 ; strides 1 00002 ;", place(1, 20));
        fault("stair 9 ; strides 0001 1 ;", place(3, 23));
        due.is("mood of 9999", 9, Due.on("stair 9 ; mood 9999 ;").weight(1));
        due.is("mood of 0009", 9, Due.on("stair 9 ; mood 0009 ;").weight(1));
        due.is("mood of 0000", 0, Due.on("stair 9 ; mood 0000 ;").weight(1));
        fault("stair 9 ; mood 09999 ;", place(1, 15));
        fault("stair 9 ; mood not not not not not 00000", place(1, 35));
        fault("stair 9 ; mood not not not not not 0000", place(5, 35));
    }

    /** "a letter may stand right behind": and a digit right behind a word, a sign behind either. */
    private static void letterBehindNumber() {
        due.is("count 1to 2", 0, Due.read(new StairWays(), "stair9;count1to2;great3times1;foot left;bar1 2;"));
        due.is("mood", 1, Due.on("stair9;mood(1and 2)or not(3<4);").weight(1));
        fault("stair 9x ;", place(1, 7));
        fault("stair 9999to ;", place(4, 6));
        fault("stair 12345to ;", place(1, 6));
        fault("stair 9 ; count 1to2to", place(1, 20));
    }

    /** "each as long as can be": two that touch are one, a blank parts them. */
    private static void asLongAsCanBe() {
        fault("stair 9 ; footleft ;", place(1, 10));
        fault("stair 9 ; strides 12 ;", 0);
        due.is("12 is one number", 1, Due.on("stair 12 ; strides 12 ;").many());
        due.is("1 2 are two", 2, Due.on("stair 12 ; strides 1 2 ;").count(5));
        fault("stair 4 0 ;", place(1, 8));
        fault("stair 9 ; mood notstep ;", place(1, 15));
        fault("stair 9 ; mood not(step) ;", 0);
        fault("st air 9 ;", place(1, 0));
        fault("stair 9 ; mood 1and2or3;", 0);
        fault("stair 9 ; mood 1andstep;", place(1, 16));
    }

    /** "blanks (10, 32) between where one likes": none, one, many, ahead of all and behind all. */
    private static void blanks() {
        fault("stair9;", 0);
        fault("\n \nstair \n 9\n\n;\n ", 0);
        fault("\n \nstair \n 9\n\n;\n !", place(1, 17));
        fault(" \n stair 9", place(1, 10));
        fault(" \n stair 9 \n ", place(1, 13));
        fault("", place(1, 0));
        fault("\n", place(1, 1));
    }

    /** "the signs ( ) < = + - * ;  All else is none": every other sign is wrong in a mood, and at its own place. */
    private static void elseIsNone() {
        for (char sign = 33; sign < 127; sign++) {
            boolean isLetter = sign >= 'a' && sign <= 'z';
            boolean isDigit = sign >= '0' && sign <= '9';
            boolean joins = "<=+-*".indexOf(sign) >= 0;
            // behind a part: what joins goes on, ';' ends, all else can't stand there
            int want = joins || sign == ';' ? 0 : place(1, 17);
            fault("stair 9 ; mood 1 " + sign + (joins ? " 1 ;" : sign == ';' ? "" : " 1 ;"), want);
            // ahead of a part: only '(' and digits can stand
            int ahead = isDigit ? 0 : sign == '(' ? place(1, 17) : place(1, 15);
            fault("stair 9 ; mood " + sign + " ;", ahead);
            due.is("sign " + sign + " as a line", place(1, 9), Due.read(new StairWays(), "stair 9 ;" + sign + (isLetter ? "" : " ")));
        }
    }
}
