import java.util.ArrayList;
import java.util.List;

/** Many runs of calls, each made on an object of DroverTracks and on the model; all answers must be alike. */
public final class ModelTest {
    private static final int RUNS = 1200;
    private static final int CALLS = 512;

    /** What the numbers of each call are, and how often it is made. */
    private static final String[] CALLS_MADE = {
        "farm toll 12", "lay farm farm 30", "giveUp farm farm 12", "root farm 9", "expose farm 14",
        "charge farm farm by 14", "drive drover farm 16", "farmOf farm what 20", "steps farm farm 4",
        "next farm farm 6", "onWay farm farm place 8", "meet farm farm 5", "sum farm farm 5", "sumAgain farm farm 4",
        "dearest farm farm 6", "isJoined farm farm 3", "isTrack farm farm 4", "exposed farm place 10",
        "wouldChange farm 7", "trees 2", "size farm 3", "farthest farm 5", "longest farm 4", "wouldSplit farm farm 8",
        "drover drover 3", "ranked place 8", "append 12", "commands 12", "faultPosition 5", "reason what 10",
        "way farm farm 6", "tree farm 10", "character place 10", "meanToll 2", "paidShare 3", "account what 12",
        "undo 7", "save 2", "restore 2",
    };

    private static long seed;

    private final Pair pair = new Pair();
    private int left = CALLS;

    public static void main(String[] args) throws ReflectiveOperationException {
        List<String[]> calls = new ArrayList<>();
        for (String told : CALLS_MADE) {
            String[] parts = told.split(" ");
            for (int times = Integer.parseInt(parts[parts.length - 1]); times > 0; times--) {
                calls.add(parts);
            }
        }
        for (int run = 0; run < RUNS; run++) {
            seed = run * 7919L + 1;
            ModelTest test = new ModelTest();
            test.build(run);
            while (test.left > 0 && test.pair.isAlike()) {
                test.step(calls.get(draw(calls.size())));
            }
            test.pair.check("run " + run);
        }
        Check.end("ModelTest");
    }

    /** A fixed row of numbers, alike in every run of this test. */
    private static int draw(int bound) {
        seed = seed * 6364136223846793005L + 1442695040888963407L;
        return (int) ((seed >>> 33) % bound);
    }

    private static boolean oneIn(int times) {
        return draw(times) == 0;
    }

    /** Some runs start with many farms, so that large trees come early. */
    private void build(int run) throws ReflectiveOperationException {
        int farms = run % 4 == 0 ? 0 : draw(13);
        for (int farm = 0; farm < farms; farm++) {
            call("farm", draw(201));
            if (farm > 0 && !oneIn(4)) {
                call("lay", farm, draw(farm));
            }
        }
    }

    private void step(String[] parts) throws ReflectiveOperationException {
        if (parts[0].equals("append")) {
            appendText();
            return;
        }
        Object[] numbers = new Object[parts.length - 2];
        for (int i = 0; i < numbers.length; i++) {
            numbers[i] = number(parts[i + 1]);
        }
        call(parts[0], numbers);
    }

    private int number(String kind) {
        if (oneIn(300)) {
            return oneIn(2) ? Integer.MAX_VALUE : Integer.MIN_VALUE;
        }
        switch (kind) {
            case "toll": return oneIn(10) ? -2 + draw(4) : oneIn(6) ? 199 + draw(3) : draw(201);
            case "by": return oneIn(6) ? -52 + draw(105) : -9 + draw(20);
            case "drover": return oneIn(12) ? -1 + draw(5) : draw(3);
            case "what": return oneIn(8) ? -1 + draw(13) : draw(10) % (1 + draw(10));
            case "place": return -1 + draw(1 + 1 + draw(14));
            default: return aFarm();
        }
    }

    private int aFarm() {
        int farms = pair.farms();
        return farms == 0 || oneIn(40) ? -1 + draw(14) : draw(farms);
    }

    private void appendText() throws ReflectiveOperationException {
        StringBuilder text = new StringBuilder();
        for (int commands = 1 + draw(4); commands > 0; commands--) {
            text.append(text.length() > 0 ? ";" : "").append(aCommand());
        }
        if (oneIn(4)) {
            spoil(text);
        }
        for (int i = 0; i < text.length() && left > 0; i++) {
            call("append", text.charAt(i));
        }
        if (!oneIn(8)) {
            call("commands");
            call("faultPosition");
        }
    }

    private static void spoil(StringBuilder text) {
        int place = draw(text.length());
        char sign = "flcretd0123456789-+*>; x\0".charAt(draw(25));
        switch (draw(3)) {
            case 0:
                text.setCharAt(place, sign);
                break;
            case 1:
                text.insert(place, sign);
                break;
            default:
                text.deleteCharAt(place);
        }
    }

    private String aCommand() {
        String one = told(aFarm());
        String other = told(aFarm());
        switch (draw(7)) {
            case 0: return "f" + Math.abs(number("toll") % 1000);
            case 1: return "l" + one + "-" + other;
            case 2: return oneIn(2) ? "c" + one + "-" + other : "l" + one + "-" + other;
            case 3: return "r" + one;
            case 4: return "e" + one;
            case 5: return "t" + one + "-" + other + (oneIn(2) ? "+" : "*") + told(oneIn(9) ? draw(100) : draw(8));
            default: return "d" + (oneIn(12) ? draw(10) : draw(3)) + ">" + one;
        }
    }

    private static String told(int number) {
        String told = Integer.toString(Math.abs(number));
        return told.length() == 1 && oneIn(5) ? "0" + told : told;
    }

    private void call(String name, Object... numbers) throws ReflectiveOperationException {
        if (left > 0 && pair.isAlike()) {
            left--;
            pair.call(name, numbers);
        }
    }
}
