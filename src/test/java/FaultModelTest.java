import java.util.ArrayList;
import java.util.List;
import java.util.Random;
import java.util.regex.Matcher;
import java.util.regex.Pattern;

/** Promise 3 on stairs drawn by chance in which some tokens are changed: each fault, or the stair, as a second reader has it. */
public final class FaultModelTest {
    private static final Due due = new Due("FaultModelTest");
    private static final int RUNS = 60_000;
    private static final Pattern PIECE = Pattern.compile("[a-z]+|[0-9]+|.", Pattern.DOTALL);
    private static final String[] PIECES = {"stair", "strides", "broken", "creak", "creaks", "landing", "bar", "foot", "left", "right",
        "count", "to", "great", "times", "mood", "stride", "last", "step", "taken", "not", "and", "or", "(", ")", "<", "=", "+", "-", "*",
        ";", "0", "12345", "00001", "abcdefghi", "x", "?", "A", ","};
    private static final String[] NUMBERS = {"0", "1", "2", "3", "4", "5", "6", "7", "12", "13", "39", "40", "41", "0003", "9999"};
    private static final String[] LINES = {"stair 3;", "strides 1 2 3 4 5 6;", "strides 1 2 3 4 5 6 7;", "foot left;", "creaks 0;",
        "great 2 times 1;", "count 3 to 3;", "broken 1;", "creak 1;", "landing 2;", "bar 1 1;", "bar 1 1;bar 1 2;bar 1 3;bar 1 4;bar 1 5;",
        "bar 2 1;bar 2 2;bar 2 3;bar 2 4;bar 2 5;", "mood not(not(step*(1+(2))));", "mood not not(stride+(last<(1)));"};

    public static void main(String[] args) {
        Random chance = new Random(28);
        int[] kinds = new int[16];
        StairWays x = new StairWays();
        SecondReader stands = new SecondReader("stair 1;");
        for (int run = 0; run < RUNS; run++) {
            if (run % 15 == 0) {
                // a text takes 32 calls at most, and an object answers for 512 of them
                x = new StairWays();
                stands = new SecondReader("stair 1;");
            }
            String text = changed(new Model(chance, 12).text, chance);
            if (text.length() > 600) {
                continue;
            }
            SecondReader second = new SecondReader(text);
            int fault = Due.read(x, text);
            due.is("stair() of '" + text + "'", second.fault, fault);
            kinds[second.fault & 15]++;
            stands = second.fault == 0 ? second : stands;
            looks(x, stands, text);
        }
        System.out.println("FaultModelTest: texts by kinds " + java.util.Arrays.toString(kinds));
        for (int kind : new int[] {0, 1, 3, 4, 5}) {
            due.is("many texts have the kind " + kind, true, kinds[kind] > 1000);
        }
        due.end();
    }

    private static String changed(String text, Random chance) {
        List<String> pieces = new ArrayList<>();
        Matcher matcher = PIECE.matcher(text);
        while (matcher.find()) {
            pieces.add(matcher.group());
        }
        int changes = chance.nextInt(4);
        for (int i = 0; i < changes && !pieces.isEmpty(); i++) {
            int at = chance.nextInt(pieces.size());
            switch (chance.nextInt(20)) {
                case 0:
                    pieces.remove(at);
                    break;
                case 1:
                    pieces = new ArrayList<>(pieces.subList(0, at));
                    break;
                case 2:
                    pieces.add(at, one(PIECES, chance));
                    break;
                case 3:
                    pieces.set(at, " " + one(PIECES, chance) + " ");
                    break;
                case 4:
                    pieces.add(at, pieces.get(chance.nextInt(pieces.size())));
                    break;
                case 5:
                case 6:
                case 7:
                case 8:
                    pieces.set(nextOf("[0-9]+", pieces, at), one(NUMBERS, chance));
                    break;
                case 9:
                case 10:
                case 11:
                    int part = nextOf("stride|last|step|taken|not|\\(", pieces, at);
                    pieces.set(part, one(new String[] {"not ", "not(", "(", "not not not "}, chance) + pieces.get(part));
                    break;
                default:
                    pieces.add(nextOf(";", pieces, at) + 1, one(LINES, chance));
                    break;
            }
        }
        return String.join("", pieces);
    }

    private static String one(String[] of, Random chance) {
        return of[chance.nextInt(of.length)];
    }

    /** The next piece of a pattern, the last piece if there is none. */
    private static int nextOf(String pattern, List<String> pieces, int from) {
        int at = from;
        while (at < pieces.size() - 1 && !pieces.get(at).matches(pattern)) {
            at++;
        }
        return at;
    }

    private static void looks(StairWays x, SecondReader stands, String text) {
        due.is("steps behind '" + text + "'", stands.top, x.count(0));
        due.is("strides behind '" + text + "'", stands.strides.size(), x.count(5));
        due.is("bars behind '" + text + "'", stands.bars.size(), x.count(6));
        due.is("the tape behind '" + text + "'", 0, x.count(7));
        int step = text.length() % stands.top;
        due.is("step " + step + " behind '" + text + "'", stands.kinds.getOrDefault(step, 0), x.step(step, 0));
    }
}
