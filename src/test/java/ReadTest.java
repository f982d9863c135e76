/** Promises 1 to 3: a new object, the tape, the language and its faults. */
public final class ReadTest {
    private static final Due due = new Due("ReadTest");

    private static void fault(String text, int kind, int place) {
        StairWays x = Due.on("stair 7 ; strides 2 3 ; broken 4 ;");
        x.stride(2);
        x.dust(3, 1);
        x.mark(2, false);
        due.is("fault of '" + text + "'", kind + 16 * place, Due.read(x, text));
        due.is("all stays behind '" + text + "', steps", 7, x.count(0));
        due.is("all stays behind '" + text + "', strides", 2, x.count(5));
        due.is("all stays behind '" + text + "', where", 2, x.count(1));
        due.is("all stays behind '" + text + "', dust", 1, x.step(3, 2));
        due.is("all stays behind '" + text + "', kind", 1, x.step(4, 0));
        due.is("all stays behind '" + text + "', many", 1, x.many());
        due.is("all stays behind '" + text + "', mark", true, x.mark(2, true));
        due.is("the tape is taken behind '" + text + "'", 0, x.count(7));
    }

    private static void right(String text) {
        due.is("fault of '" + text + "'", 0, Due.read(new StairWays(), text));
    }

    /** The last token of the text is the wrong one. */
    private static void last(String text, int kind) {
        fault(text, kind, text.lastIndexOf(' ') + 1);
    }

    public static void main(String[] args) {
        fresh();
        tape();
        tokens();
        heads();
        strides();
        steps();
        numbers();
        bars();
        words();
        moods();
        anew();
        due.end();
    }

    private static void fresh() {
        StairWays x = new StairWays();
        int[] want = {1, 0, 0, 0, 0, 2, 0, 0};
        for (int i = 0; i < 8; i++) {
            due.is("new count " + i, want[i], x.count(i));
        }
        due.is("new may 1", true, x.may(1));
        due.is("new may 2", false, x.may(2));
        due.is("new weight 1", 1, x.weight(1));
        for (int i = 0; i < 4; i++) {
            due.is("new mark " + i, false, x.mark(i, true));
        }
        due.is("None", -1, StairWays.NONE);
    }

    private static void tape() {
        StairWays x = new StairWays();
        due.is("all zero", 0, x.feed(0, 0, 0));
        due.is("left out", 4, x.feed(0x000A1F207E7FFFL, 0x0920L << 48, 0x80));
        due.is("highest first", 28, x.feed(0x7374616972203720L, 0x2020202020202020L, 0x202020202020203BL));
        due.is("strange ~ at 2", 1 + 16 * 2, x.stair());
        due.is("order of the three", 24, x.feed(0x7374616972203720L, 0x2020202020202020L, 0x202020202020203BL));
        due.is("read", 0, x.stair());
        due.is("seven", 7, x.count(0));
        for (int i = 0; i < 41; i++) {
            x.feed(0x2020202020202020L, 0x2020202020202020L, 0x2020202020202020L);
        }
        due.is("984", 984, x.count(7));
        due.is("cut at 1,000", 1000, x.feed(0x7374616972203720L, 0x3B20202020202020L, 0x7E7E7E7E7E7E7E7EL));
        due.is("still 1,000", 1000, x.feed(-1, 0x7E7E7E7E7E7E7E7EL, 0x7E7E7E7E7E7E7E7EL));
        due.is("what is beyond is left out", 0, x.stair());
        due.is("taken", 0, x.count(7));
        due.is("negative bytes are left out", 0, x.feed(-1, Long.MIN_VALUE, 0x8080808080808080L));
    }

    private static void tokens() {
        right("stair 7;");
        right("stair7;strides1 2;");
        right("\nstair\n7\n;\n");
        right("stair 0007;");
        right("stair 7;count 1to 2;");
        right("stair 7;mood 3and 4or 0;");
        right("stair 7 ; mood 2-1*3<4 ;");
        fault("stair 00007 ;", 1, 6);
        fault("stair 12345 ;", 1, 6);
        fault("stairs 7 ;", 1, 0);
        fault("Stair 7 ;", 1, 0);
        fault("stairz 7 ;", 1, 0);
        fault("astair 7 ;", 1, 0);
        fault("stair` 7 ;", 1, 5);
        fault("stair{ 7 ;", 1, 5);
        fault("stair 7/ ;", 1, 7);
        fault("stair 7: ;", 1, 7);
        fault("stair 7 , strides 1 ;", 1, 8);
        fault("stair 7 ; stridesstrides 1 ;", 1, 10);
        fault("stair 7 ; mood stridestep ;", 1, 15);
        fault("stair 7 ; mood abcdefgh ;", 1, 15);
        fault("stair 7 ; mood 1 > 2 ;", 1, 17);
        fault("stair 7 ; mood 1 / 2 ;", 1, 17);
        fault("stair 7 ; mood 10000 ;", 1, 15);
        right("stair 7 ; mood 9999 ;");
        fault("stair -7 ;", 1, 6);
        fault("stair 7 ; 7 ;", 1, 10);
        fault("stair 7 ; ;", 1, 10);
        fault("99999999999999999999", 1, 0);
    }

    private static void heads() {
        fault("", 1, 0);
        fault("   ", 1, 3);
        fault("stair", 1, 5);
        fault("stair  ", 1, 7);
        fault("stair ;", 1, 6);
        fault("stair 7", 1, 7);
        fault("stair 7 \n", 1, 9);
        fault("stair 7 8 ;", 1, 8);
        last("stair 0", 4);
        last("stair 41", 4);
        right("stair 1 ;");
        right("stair 40 ;");
        fault("broken 1 ; stair 7 ;", 1, 0);
        fault("7", 1, 0);
        fault(";", 1, 0);
        last("stair 7 ; stair", 1);
        last("stair 7 ; to", 1);
        last("stair 7 ; left", 1);
        last("stair 7 ; stride", 1);
    }

    private static void strides() {
        right("stair 7 ; strides 12 1 11 2 10 3 ;");
        right("stair 7 ; strides 12 ;");
        fault("stair 7 ; strides ;", 1, 18);
        fault("stair 7 ; strides", 1, 17);
        fault("stair 7 ; strides 1", 1, 19);
        last("stair 7 ; strides 0", 4);
        last("stair 7 ; strides 13", 4);
        last("stair 7 ; strides 2 2", 3);
        last("stair 7 ; strides 2 1 2", 3);
        last("stair 7 ; strides 1 2 3 4 5 6 7", 5);
        last("stair 7 ; strides 1 2 3 4 5 6 6", 3);
        last("stair 7 ; strides 1 2 3 4 5 6 13", 4);
        last("stair 7 ; strides 1 2 3 4 5 6 0", 4);
        last("stair 7 ; strides 1 2 3 4 5 6 bar", 1);
        last("stair 7 ; strides 1 2 bar", 1);
        last("stair 7 ; strides 2 ; strides", 3);
    }

    private static void steps() {
        for (String line : new String[] {"broken", "creak", "landing"}) {
            right("stair 7 ; " + line + " 1 ; " + line + " 6 ;");
            last("stair 7 ; " + line + " 0", 4);
            last("stair 7 ; " + line + " 7", 4);
            last("stair 7 ; " + line + " 8", 4);
            last("stair 7 ; " + line + " 9999", 4);
            last("stair 1 ; " + line + " 1", 4);
            last("stair 7 ; " + line + " ;", 1);
            last("stair 7 ; " + line + " 3 4", 1);
            fault("stair 7 ; " + line + " 3", 1, 12 + line.length());
            for (String other : new String[] {"broken", "creak", "landing"}) {
                last("stair 7 ; " + line + " 3 ; " + other + " 3", 3);
            }
        }
    }

    private static void numbers() {
        right("stair 7 ; creaks 0 ;");
        right("stair 7 ; creaks 4 ;");
        last("stair 7 ; creaks 5", 4);
        last("stair 7 ; creaks ;", 1);
        last("stair 7 ; creaks 1 2", 1);
        last("stair 7 ; creaks 1 ; creaks", 3);
        right("stair 7 ; count 0 to 0 ;");
        right("stair 7 ; count 40 to 40 ;");
        right("stair 7 ; count 0 to 40 ;");
        last("stair 7 ; count 41", 4);
        last("stair 7 ; count 3 to 2", 4);
        last("stair 7 ; count 3 to 41", 4);
        last("stair 7 ; count to", 1);
        last("stair 7 ; count 3 3", 1);
        last("stair 7 ; count 3 times", 1);
        last("stair 7 ; count 3 to ;", 1);
        last("stair 7 ; count 3 to 4 5", 1);
        last("stair 7 ; count 1 to 2 ; count", 3);
        right("stair 7 ; great 1 times 0 ;");
        right("stair 7 ; great 12 times 4 ;");
        last("stair 7 ; great 0", 4);
        last("stair 7 ; great 13", 4);
        last("stair 7 ; great 3 times 5", 4);
        last("stair 7 ; great times", 1);
        last("stair 7 ; great 3 to", 1);
        last("stair 7 ; great 3 times ;", 1);
        last("stair 7 ; great 3 times 1 1", 1);
        last("stair 7 ; great 3 times 1 ; great", 3);
    }

    private static void bars() {
        StringBuilder eight = new StringBuilder("stair 7 ;");
        for (int i = 1; i <= 8; i++) {
            eight.append(" bar 12 ").append(i).append(" ;");
        }
        right(eight.toString());
        last(eight + " bar", 5);
        right("stair 7 ; bar 1 2 ; bar 2 1 ; bar 1 1 ; bar 12 12 ;");
        last("stair 7 ; bar 0", 4);
        last("stair 7 ; bar 13", 4);
        last("stair 7 ; bar 1 0", 4);
        last("stair 7 ; bar 1 13", 4);
        last("stair 7 ; bar 1 ;", 1);
        last("stair 7 ; bar ;", 1);
        last("stair 7 ; bar 1 2 3", 1);
        last("stair 7 ; bar 1 2 ; bar 2 1 ; bar 1 2", 3);
        last("stair 7 ; bar 12 12 ; bar 12 12", 3);
    }

    private static void words() {
        right("stair 7 ; foot left ;");
        right("stair 7 ; foot right ;");
        last("stair 7 ; foot up", 1);
        last("stair 7 ; foot 1", 1);
        last("stair 7 ; foot ;", 1);
        last("stair 7 ; foot left right", 1);
        last("stair 7 ; foot left ; foot", 3);
    }

    private static void moods() {
        right("stair 7 ; mood not not not not 1 ;");
        right("stair 7 ; mood ( ( ( ( 1 ) ) ) ) ;");
        right("stair 7 ; mood ( not ( not step + ( 1 ) ) ) * 2 ;");
        last("stair 7 ; mood not not not not not 1", 5);
        last("stair 7 ; mood not not not not not step", 5);
        last("stair 7 ; mood not not not not not not", 5);
        last("stair 7 ; mood not not not not not (", 5);
        last("stair 7 ; mood not not not not not ;", 1);
        last("stair 7 ; mood not not not not not pace", 1);
        last("stair 7 ; mood not not not not not )", 1);
        last("stair 7 ; mood not not not not not 12345", 1);
        last("stair 7 ; mood ( ( ( ( ( 1", 5);
        last("stair 7 ; mood ( ( ( ( ( and", 1);
        last("stair 7 ; mood ( not ( not ( last", 5);
        last("stair 7 ; mood 1 + ( ( ( ( not 1", 5);
        for (String ahead : new String[] {"1 and", "1 or", "1 <", "1 =", "1 +", "1 -", "1 *", "1 and 2 < 3 + 4 *"}) {
            last("stair 7 ; mood " + ahead + " not not not not not 1", 5);
            last("stair 7 ; mood not ( " + ahead + " not not not 1", 5);
            last("stair 7 ; mood " + ahead + " ;", 1);
            right("stair 7 ; mood not ( " + ahead + " not not 1 ) ;");
        }
        last("stair 7 ; mood ;", 1);
        last("stair 7 ; mood and", 1);
        last("stair 7 ; mood )", 1);
        last("stair 7 ; mood ( )", 1);
        last("stair 7 ; mood 1 )", 1);
        last("stair 7 ; mood ( 1 ;", 1);
        last("stair 7 ; mood ( 1 ) (", 1);
        last("stair 7 ; mood 1 2", 1);
        last("stair 7 ; mood 1 not", 1);
        last("stair 7 ; mood 1 + ;", 1);
        last("stair 7 ; mood 1 + -", 1);
        last("stair 7 ; mood -", 1);
        last("stair 7 ; mood 1 < 2 <", 1);
        last("stair 7 ; mood 1 < 2 =", 1);
        last("stair 7 ; mood 1 = 2 + 3 <", 1);
        right("stair 7 ; mood 1 < 2 and 3 = 4 or 5 < ( 6 < 7 ) ;");
        last("stair 7 ; mood 1 and or", 1);
        last("stair 7 ; mood stair", 1);
        last("stair 7 ; mood steps", 1);
        fault("stair 7 ; mood 1", 1, 16);
        fault("stair 7 ; mood ( 1", 1, 18);
        last("stair 7 ; mood 1 ; mood", 3);
    }

    private static void anew() {
        StairWays x = Due.on("stair 7 ; broken 2 ; bar 1 1 ; creaks 0 ; creak 4 ; great 2 times 0 ; foot left ; mood 5 ;");
        x.stride(1);
        x.dust(3, 2);
        x.mark(0, false);
        due.is("read anew", 0, Due.read(x, "stair 8 ;"));
        int[] want = {8, 0, 0, 0, 0, 2, 0, 0};
        for (int i = 0; i < 8; i++) {
            due.is("anew count " + i, want[i], x.count(i));
        }
        due.is("no mark", false, x.mark(0, true));
        due.is("no dust", 0, x.step(3, 2));
        due.is("not broken", 0, x.step(2, 0));
        due.is("nothing of the old one", 34, x.many());
        due.is("mood", 1, x.weight(2));
    }
}
