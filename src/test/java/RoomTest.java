import com.sun.management.ThreadMXBean;
import java.lang.management.ManagementFactory;
import java.util.NoSuchElementException;
import java.util.Random;

/** Whatever is asked in whatever state: nothing is thrown but by plain, and little room is taken. */
public final class RoomTest {
    private static final Due due = new Due("RoomTest");
    // 7.3 million fields and elements of at most 8 bytes: a run of one object keeps far below
    private static final long MOST_BYTES = 4_000_000;
    private static final String[] PIECES = {"stair ", "stair 40 ;", "strides ", "broken ", "creak ", "creaks ", "landing ", "bar ",
        "foot ", "left ", "right ", "count ", " to ", "great ", " times ", "mood ", " ;", " ;", " ;", " 1", " 2", " 3 ", " 12 ", " 40", " 0 ",
        " 41 ", " 9999 ", "12345", "(", ")", "<", "=", "+", "-", "*", " not ", " and ", " or ", "stride ", "last ", "step ", "taken ", "?", "\n", "X"};

    public static void main(String[] args) {
        String full = fullest();
        heavy(full);
        for (int run = 0; run < 1500; run++) {
            wild(run, full);
        }
        due.end();
    }

    /** Forty steps, six strides, all barred, all limits: nothing needs more. */
    private static String fullest() {
        StringBuilder text = new StringBuilder("stair 40;strides 1 2 3 4 5 6;creaks 4;great 3 times 4;count 8 to 30;foot left;");
        for (int i = 1; i <= 6; i++) {
            text.append("bar ").append(i).append(' ').append(i).append(';');
        }
        for (int i = 1; i < 40; i += 2) {
            text.append("creak ").append(i).append(';');
        }
        text.append("mood 1");
        while (text.length() < 980) {
            text.append("+stride*last");
        }
        return text + ";";
    }

    private static void heavy(String full) {
        long before = 0;
        for (int round = 0; round < 2; round++) {
            // the first round loads classes
            before = allocated();
            long[] parts = parts(full);
            StairWays x = new StairWays();
            for (int i = 0; i < parts.length; i += 3) {
                x.feed(parts[i], parts[i + 1], parts[i + 2]);
            }
            due.is("read", 0, x.stair());
            for (int i = 0; i < 45; i++) {
                x.many();
                x.manyOf(i % 41);
                x.game();
                x.fit();
                x.nth(i, i);
                x.fair(i, 0);
                x.crowd(1000000000000L - i, 40);
                x.weary(1000000000000L - i);
                x.plain(999999999 - i, 9999);
                x.dust(1 + i % 39, i % 3);
                x.fewest();
            }
        }
        long used = allocated() - before;
        System.out.println("RoomTest: a heavy run takes " + used + " bytes");
        due.is("bytes of a heavy run", true, used < MOST_BYTES);
        before = allocated();
        for (int i = 0; i < 512; i++) {
            new StairWays().many();
        }
        used = allocated() - before;
        System.out.println("RoomTest: 512 objects take " + used + " bytes");
        due.is("bytes of 512 objects", true, used < 512 * 40_000L);
    }

    private static long allocated() {
        return ((ThreadMXBean) ManagementFactory.getThreadMXBean()).getThreadAllocatedBytes(Thread.currentThread().getId());
    }

    private static long[] parts(String text) {
        long[] parts = new long[(text.length() + 23) / 24 * 3];
        for (int i = 0; i < parts.length * 8; i++) {
            parts[i / 8] = parts[i / 8] << 8 | (i < text.length() ? text.charAt(i) : 0);
        }
        return parts;
    }

    private static void wild(int run, String full) {
        Random chance = new Random(run);
        StairWays x = new StairWays();
        if (run % 10 == 0) {
            due.is("read", 0, Due.read(x, full));
        }
        String calls = "";
        try {
            for (int call = 0; call < 300; call++) {
                int which = chance.nextInt(34);
                calls = "call " + call + " of kind " + which;
                wildCall(x, which, chance);
            }
        } catch (Throwable e) {
            e.printStackTrace(System.out);
            due.is("run " + run + " throws " + e + " at " + calls, true, false);
        }
        due.is("it still answers", true, x.count(0) >= 1);
    }

    private static int some(Random chance) {
        switch (chance.nextInt(5)) {
            case 0:
                return chance.nextInt();
            case 1:
                return chance.nextBoolean() ? Integer.MIN_VALUE + chance.nextInt(2) : Integer.MAX_VALUE - chance.nextInt(2);
            case 2:
                return chance.nextInt(70) - 15;
            default:
                return chance.nextInt(14);
        }
    }

    private static long someLong(Random chance) {
        return chance.nextInt(4) == 0 ? chance.nextLong() : chance.nextInt(3) == 0 ? Long.MIN_VALUE : (long) some(chance) * (1 + chance.nextInt(1000));
    }

    private static void wildCall(StairWays x, int which, Random chance) {
        int a = some(chance);
        int b = some(chance);
        switch (which) {
            case 0: x.feed(chance.nextLong(), chance.nextLong(), chance.nextLong()); break;
            case 1: case 2: case 3: Due.feed(x, PIECES[chance.nextInt(PIECES.length)]); break;
            case 4: Due.feed(x, new Model(chance, 40).text); break;
            case 5: x.stair(); break;
            case 6: x.step(a, b); break;
            case 7: x.may(a); break;
            case 8: case 9: case 10: x.stride(a); break;
            case 11: x.back(chance.nextInt(4) == 0); break;
            case 12: x.taken(a); break;
            case 13: x.lawful(); break;
            case 14: x.many(); break;
            case 15: x.manyOf(a); break;
            case 16: x.rank(); break;
            case 17: x.nth(someLong(chance), a); break;
            case 18: wildPlain(x, a, b); break;
            case 19: x.crowd(someLong(chance), a); break;
            case 20: x.weary(someLong(chance)); break;
            case 21: x.weight(a); break;
            case 22: x.two(); break;
            case 23: x.game(); break;
            case 24: x.heaps(a); break;
            case 25: case 26: x.dust(a, b); break;
            case 27: x.fit(); break;
            case 28: x.fewest(); break;
            case 29: x.still(a, b, some(chance), some(chance), chance.nextInt(2)); break;
            case 30: x.fair(a, b); break;
            case 31: x.climb(a, chance.nextInt(2)); break;
            case 32: x.mark(a, chance.nextBoolean()); break;
            default: x.count(a); break;
        }
    }

    private static void wildPlain(StairWays x, int steps, int number) {
        boolean wrong = steps < 0 || steps > 999999999 || number < 1 || number > 9999;
        boolean thrown = false;
        try {
            x.plain(steps, number);
        } catch (NoSuchElementException e) {
            thrown = true;
        }
        due.is("plain(" + steps + ", " + number + ") throws", wrong, thrown);
    }
}
