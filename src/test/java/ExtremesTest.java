/**
 * Every call with numbers at, just within, just outside and far outside each bound of the document, in countries
 * that are empty, small, full, undone and restored. The answer and all that can be seen after it must be as the
 * model's: so no call throws what it may not, and one that throws leaves the state.
 */
public final class ExtremesTest {
    private static final int LEAST = Integer.MIN_VALUE;
    private static final int MOST = Integer.MAX_VALUE;
    /** Questions made on one object, which is used for at most 512 calls. */
    private static final int QUESTIONS = 250;

    private static final int[] FARMS = {LEAST, -1, 0, 1, 5, 10, 11, 12, MOST};
    private static final int[] TOLLS = {LEAST, LEAST + 200, -1, 0, 1, 199, 200, 201, 256, MOST};
    private static final int[] BY = {LEAST, -51, -50, -1, 0, 1, 50, 51, MOST};
    private static final int[] DROVERS = {LEAST, -1, 0, 1, 2, 3, MOST};
    private static final int[] PLACES = {LEAST, -1, 0, 1, 2, 10, 11, 12, MOST};
    private static final int[] WHATS = {LEAST, -1, 0, 1, 2, 3, 4, 5, 6, 7, 8, 9, 10, MOST};
    private static final int[] INDICES = {LEAST, -1, 0, 1, 2, 46, 47, 59, 60, 72, 73, 79, 80, MOST};

    /** Calls that lead to a country; "." ahead of a text appends its characters, "!" ahead of a call makes it throw. */
    private static final String[] COUNTRIES = {
        "",
        "farm/0",
        "farm/200 farm/0",
        "farm/150 farm/50 lay/0/1 drive/0/0 expose/0",
        "farm/150 farm/50 farm/0 undo save farm/9 lay/2/0 drive/0/2 restore",
        "farm/7 undo .?? !commands",
        ".f150;f151;f10;f9;f0;f50;f99;f100;f149;f51;f49;f200 commands",
        ".f0;f1;f9;f10;f0;f199;f99;f100;f0;f0;f200;f100 commands",
        ".f200;f200;f200;f200;f200;f200;f200;f200;f200;f200;f200;f200 commands"
            + " .l11-10;l10-9;l9-8;l8-7;l7-6;l6-5;l5-4;l4-3;l3-2;l2-1;l1-0 commands expose/11 way/0/11",
        ".f50;f50;f50;f50;f50;f50;f50;f50;f50;f50;f50;f50 commands"
            + " .l0-1;l1-2;l2-3;l3-4;l4-5;l7-6;l8-6;l9-6;l10-6;l11-6 commands drive/0/0 drive/0/5 drive/1/11 tree/5",
        ".f150;f150;f150;f150;f150;f150;f150;f150;f150;f150;f150;f150 commands"
            + " .l0-11;l1-11;l2-11;l3-11;l4-11;l5-11;l6-11;l7-11;l8-11;l9-11 commands save drive/2/10 expose/5 root/1"
            + " .e1;e1;e1;e1;e1;e1;e1;e1;e1;e1;e1;e1;e1;e1;e1;e1;e1;e1;e1;e10",
    };

    private static Pair asked;
    private static int questions;

    public static void main(String[] args) throws ReflectiveOperationException {
        for (String country : COUNTRIES) {
            changes(country);
            asked = lead(country);
            questions = 0;
            questionsOfOne(country);
            questionsOfTwo(country);
            questionsOfThree(country);
            endQuestions(country);
        }
        Check.end("ExtremesTest");
    }

    private static Pair lead(String country) throws ReflectiveOperationException {
        Pair pair = new Pair();
        for (String told : country.split(" ")) {
            if (told.startsWith(".")) {
                for (char sign : told.substring(1).toCharArray()) {
                    pair.call("append", sign);
                }
            } else if (told.startsWith("!")) {
                Check.due("throws: " + told, false, callTold(pair, told.substring(1).split("/")));
            } else if (!told.isEmpty()) {
                Check.due("leads on: " + told, true, callTold(pair, told.split("/")));
            }
        }
        return pair;
    }

    private static boolean callTold(Pair pair, String[] parts) throws ReflectiveOperationException {
        Object[] numbers = new Object[parts.length - 1];
        for (int i = 0; i < numbers.length; i++) {
            numbers[i] = Integer.parseInt(parts[i + 1]);
        }
        return pair.call(parts[0], numbers);
    }

    private static void changes(String country) throws ReflectiveOperationException {
        for (int toll : TOLLS) {
            change(country, "farm", toll);
        }
        for (int one : FARMS) {
            change(country, "root", one);
            change(country, "expose", one);
            for (int other : FARMS) {
                change(country, "lay", one, other);
                change(country, "giveUp", one, other);
                for (int by : BY) {
                    change(country, "charge", one, other, by);
                }
            }
            for (int number : DROVERS) {
                change(country, "drive", number, one);
            }
        }
        String[] plain = {"commands", "undo", "save", "restore", "meanToll", "paidShare", "trees", "faultPosition"};
        for (String name : plain) {
            change(country, name);
        }
        change(country, "append", ';');
    }

    /** The call, all that can be seen then, and the way back, if the call can be undone. */
    private static void change(String country, String name, Object... numbers) throws ReflectiveOperationException {
        Pair pair = lead(country);
        boolean returned = pair.call(name, numbers);
        pair.askAll();
        if (returned) {
            pair.call("undo");
            pair.askAll();
        }
        pair.check(country);
    }

    private static void questionsOfOne(String country) throws ReflectiveOperationException {
        for (int farm : FARMS) {
            ask(country, "wouldChange", farm);
            ask(country, "size", farm);
            ask(country, "farthest", farm);
            ask(country, "longest", farm);
            ask(country, "tree", farm);
        }
        for (int number : DROVERS) {
            ask(country, "drover", number);
        }
        for (int place : PLACES) {
            ask(country, "ranked", place);
        }
        for (int what : WHATS) {
            ask(country, "reason", what);
            ask(country, "account", what);
        }
        for (int index : INDICES) {
            ask(country, "character", index);
        }
    }

    private static void questionsOfTwo(String country) throws ReflectiveOperationException {
        String[] names = {"steps", "next", "meet", "sum", "sumAgain", "dearest", "isJoined", "isTrack", "wouldSplit",
            "way"};
        for (int one : FARMS) {
            for (int other : FARMS) {
                for (String name : names) {
                    ask(country, name, one, other);
                }
            }
            for (int what : WHATS) {
                ask(country, "farmOf", one, what);
            }
            for (int place : PLACES) {
                ask(country, "exposed", one, place);
            }
        }
    }

    private static void questionsOfThree(String country) throws ReflectiveOperationException {
        for (int one : FARMS) {
            for (int other : FARMS) {
                for (int place : PLACES) {
                    ask(country, "onWay", one, other, place);
                }
            }
        }
    }

    private static void ask(String country, String name, Object... numbers) throws ReflectiveOperationException {
        asked.call(name, numbers);
        questions++;
        if (questions == QUESTIONS) {
            endQuestions(country);
            asked = lead(country);
            questions = 0;
        }
    }

    /** Questions, also those that throw, leave all. */
    private static void endQuestions(String country) throws ReflectiveOperationException {
        asked.askAll();
        asked.check(country);
    }
}
