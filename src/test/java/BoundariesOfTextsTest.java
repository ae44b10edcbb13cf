import java.util.NoSuchElementException;

/** The boundary cases that promises 28 to 31 and their terms name, each with a check of its own. */
public final class BoundariesOfTextsTest {
    private static final int LEAST = Integer.MIN_VALUE;
    private static final int MOST = Integer.MAX_VALUE;

    /** Every command with the most digits and with fewer; below each sign "x" if a text may end behind it. */
    private static final String EVERY_COMMAND = "f200;l10-11;c1-2;r7;e08;t0-11+50;t3-4*5;d2>11";
    private static final String MAY_END_BEHIND = ".xxx.....xx....x..x..xx.......xx......x....xx";

    public static void main(String[] args) {
        appendUntilFull();
        appendAnySign();
        appendAfterCommands();
        emptyText();
        textsThatEndTooEarly();
        textsThatCannotGoOn();
        digitsOfTolls();
        digitsOfDrovers();
        digitsOfAllElse();
        signsBesideTheDigits();
        oneCommand();
        fullTextOfCommands();
        fullTextWithFaults();
        refusedAtTheEnds();
        refusedForEachReason();
        numbersOutOfRange();
        commandsSeeThoseAhead();
        faultPositionOfTheLatest();
        faultIsNotRefused();
        reasonWhat();
        reasonOfTheLatest();
        reasonIndex();
        Check.end("BoundariesOfTextsTest");
    }

    // Promise 28: append. "If the buffer contains 60 characters."

    private static void appendUntilFull() {
        DroverTracks x = new DroverTracks();
        for (int length = 1; length <= 60; length++) {
            Check.due("the new length", length, x.append(';'));
        }
        Check.throwing("60 characters: the 61st", IllegalStateException.class, () -> x.append(';'));
        Check.throwing("60 characters: the 61st again", IllegalStateException.class, () -> x.append('f'));
        Check.due("the buffer stays", 60, x.account(9));
        Check.due("no text was told yet", -1, x.faultPosition());
        Check.throwing("append is no refusal", NoSuchElementException.class, () -> x.reason(0));
    }

    private static void appendAnySign() {
        DroverTracks x = new DroverTracks();
        char[] signs = {0, 1, ' ', 127, 128, 255, 256, 0x7fff, 0x8000, 0xd800, 0xffff};
        for (int place = 0; place < signs.length; place++) {
            Check.due("any character: " + (int) signs[place], place + 1, x.append(signs[place]));
        }
        for (char sign : signs) {
            DroverTracks y = Land.alone(1);
            y.append(sign);
            checkFault(y, "ahead: " + (int) sign, 0);
            Land.text(y, "f1" + sign);
            checkFault(y, "behind: " + (int) sign, 2);
        }
    }

    /** A full text that was carried out leaves room for another one of 60. */
    private static void appendAfterCommands() {
        DroverTracks x = Land.alone(1);
        for (int times = 0; times < 3; times++) {
            Land.text(x, "e0;e0;e0;e0;e0;e0;e0;e0;e0;e0;e0;e0;e0;e0;e0;e0;e0;e0;e0;e00");
            Check.due("full", 60, x.account(9));
            Check.due("carried out", 20, x.commands());
            Check.due("empty afterwards", 0, x.account(9));
        }
        Check.due("all of them", 60, x.account(5));
    }

    // Promises 29 and 30: commands and faultPosition

    private static void checkFault(DroverTracks x, String what, int due) {
        Check.throwing(what + " has a fault", IllegalArgumentException.class, () -> x.commands());
        Check.due(what + ": fault position", due, x.faultPosition());
        Check.due(what + ": the buffer is empty afterwards", 0, x.account(9));
    }

    private static void checkFaultOf(String text, int due) {
        DroverTracks x = Land.rowOf(12, 100);
        Land.text(x, text);
        checkFault(x, text, due);
    }

    private static void checkNoFaultOf(String text) {
        DroverTracks x = Land.rowOf(12, 100);
        Land.text(x, text);
        try {
            x.commands();
        } catch (UnsupportedOperationException e) {
            Check.holds(text + ": refused for a reason", x.reason(0) > 0);
        }
        Check.due(text + ": no fault", -1, x.faultPosition());
        Check.due(text + ": the buffer is empty afterwards", 0, x.account(9));
    }

    /** "The text buffer holds one or more commands": none ends too early. */
    private static void emptyText() {
        DroverTracks x = new DroverTracks();
        checkFault(x, "the empty text", 0);
        checkFault(x, "the empty text again", 0);
        Land.commands(x, "f1");
        checkFault(x, "the empty text after another one", 0);
        Check.due("is no change", 1, x.account(8));
    }

    /** "Or the length of the text if it ends too early." */
    private static void textsThatEndTooEarly() {
        Check.due("the marks", EVERY_COMMAND.length(), MAY_END_BEHIND.length());
        for (int length = 1; length <= EVERY_COMMAND.length(); length++) {
            String text = EVERY_COMMAND.substring(0, length);
            if (MAY_END_BEHIND.charAt(length - 1) == 'x') {
                checkNoFaultOf(text);
            } else {
                checkFaultOf(text, length);
            }
        }
    }

    /** "The index of its first character that cannot continue such a text." */
    private static void textsThatCannotGoOn() {
        for (int index = 0; index < EVERY_COMMAND.length(); index++) {
            String ahead = EVERY_COMMAND.substring(0, index);
            String behind = EVERY_COMMAND.substring(index + 1);
            checkFaultOf(ahead + "?" + behind, index);
            checkFaultOf(ahead + "F?", index);
        }
        checkFaultOf("f1??", 2);
    }

    /** "Tolls [have] 1 to 3" digits. */
    private static void digitsOfTolls() {
        checkFaultOf("f", 1);
        checkFaultOf("f;", 1);
        checkNoFaultOf("f1");
        checkNoFaultOf("f12");
        checkNoFaultOf("f123");
        checkNoFaultOf("f000");
        checkFaultOf("f1234", 4);
        checkFaultOf("f0000", 4);
    }

    /** "Drovers have one digit." */
    private static void digitsOfDrovers() {
        checkFaultOf("d>1", 1);
        checkNoFaultOf("d1>1");
        checkFaultOf("d01>1", 2);
        checkFaultOf("d00>1", 2);
    }

    /** "All else 1 or 2", in each place where a number may stand. */
    private static void digitsOfAllElse() {
        checkOneOrTwo("l", "-1");
        checkOneOrTwo("l1-", "");
        checkOneOrTwo("c", "-1");
        checkOneOrTwo("c1-", "");
        checkOneOrTwo("r", "");
        checkOneOrTwo("e", "");
        checkOneOrTwo("t", "-1+1");
        checkOneOrTwo("t1-", "+1");
        checkOneOrTwo("t1-1+", "");
        checkOneOrTwo("t1-1*", "");
        checkOneOrTwo("d1>", "");
    }

    private static void checkOneOrTwo(String ahead, String behind) {
        int place = ahead.length();
        checkFaultOf(ahead + behind, place);
        checkNoFaultOf(ahead + "3" + behind);
        checkNoFaultOf(ahead + "03" + behind);
        checkNoFaultOf(ahead + "99" + behind);
        checkFaultOf(ahead + "003" + behind, place + 2);
        checkFaultOf(ahead + "100" + behind, place + 2);
        if (!behind.isEmpty()) {
            checkFaultOf(ahead + "3", place + 1);
            checkFaultOf(ahead + "3;" + behind, place + 1);
        }
    }

    /** The signs next to "0" and "9", "-", ">", "+" and "*", and each in the place of another one. */
    private static void signsBesideTheDigits() {
        checkFaultOf("f/", 1);
        checkFaultOf("f:", 1);
        checkFaultOf("f1/", 2);
        checkFaultOf("f1:", 2);
        checkFaultOf("f-1", 1);
        checkFaultOf("f+1", 1);
        checkFaultOf("l1,2", 2);
        checkFaultOf("l1.2", 2);
        checkFaultOf("l1>2", 2);
        checkFaultOf("c1+2", 2);
        checkFaultOf("c1*2", 2);
        checkFaultOf("d1-2", 2);
        checkFaultOf("d1=2", 2);
        checkFaultOf("t1+2+3", 2);
        checkFaultOf("t1*2+3", 2);
        checkFaultOf("t1-2-3", 4);
        checkFaultOf("t1-2,3", 4);
        checkFaultOf("t1-2)3", 4);
        checkFaultOf("t1-2+-3", 5);
        checkFaultOf("t1-2*-3", 5);
        checkFaultOf("t1-2+3+4", 6);
        checkFaultOf("r1-2", 2);
        checkFaultOf("e1>2", 2);
        checkFaultOf("f1,f2", 2);
        checkFaultOf("f1:f2", 2);
        checkFaultOf("f1<f2", 2);
        checkFaultOf("f1f2", 2);
        checkFaultOf(";f1", 0);
        checkFaultOf("f1;;f2", 3);
        checkFaultOf("f1; f2", 3);
        checkFaultOf("f1;f2;", 6);
    }

    /** "One or more commands": one of each kind, which is one change. */
    private static void oneCommand() {
        String[] texts = {"f0", "l3-0", "c1-2", "r2", "e0", "t0-0+0", "t0-2*50", "d0>0"};
        for (String text : texts) {
            DroverTracks x = Land.rowOf(3, 100);
            x.farm(100);
            Check.due("one command: " + text, 1, Land.commands(x, text));
            Check.due("one change: " + text, 7, x.account(8));
        }
    }

    private static void fullTextOfCommands() {
        DroverTracks x = new DroverTracks();
        String text = "f1;f2;f3;f4;f5;f6;f7;f8;f9;f10;f11;f200;l0-1;e0;d0>0;d0>1;r0";
        Check.due("60 characters", 60, text.length());
        Check.due("seventeen commands", 17, Land.commands(x, text));
        Check.due("twelve farms", 12, x.account(0));
        Check.due("the last command", 0, x.farmOf(1, 6));
        Check.due("the last but one", 1, x.drover(0));
        Check.due("paid", 2, x.account(7));
        Check.due("one change", 1, x.account(8));
        Check.due("undone at once", 0, x.undo());
        Check.due("without farms again", 0, x.account(0));
        Check.due("nowhere again", -1, x.drover(0));
    }

    private static void fullTextWithFaults() {
        String almost = "f1;f1;f1;f1;f1;f1;f1;f1;f1;f1;f1;f1;f1;f1;f1;f1;f1;f1;f1;";
        Check.due("57 characters", 57, almost.length());
        checkFullFault(almost + "f1;", 60);
        checkFullFault(almost + "f1f", 59);
        checkFullFault(almost + "e0-", 59);
        checkFullFault(almost + "d0>", 60);
        checkFullFault(almost + "l0-", 60);
        checkFullFault(almost + "c00", 60);
        checkFullFault(almost + "t0-", 60);
        checkFullFault(almost + "f??", 58);
        checkFullFault("?" + almost + "f1", 0);
    }

    private static void checkFullFault(String text, int due) {
        Check.due("a full text", 60, text.length());
        DroverTracks x = Land.alone(1);
        Land.text(x, text);
        Check.throwing("it is full", IllegalStateException.class, () -> x.append('0'));
        checkFault(x, text, due);
        Check.due("none is carried out", 1, x.account(0));
        Check.due("no change is kept", 1, x.account(8));
    }

    private static void checkRefused(DroverTracks x, String text, int reason, int detail, int command) {
        Land.text(x, text);
        Check.refused(text, x, reason, detail, command, () -> x.commands());
        Check.due(text + ": the buffer is empty afterwards", 0, x.account(9));
        Check.due(text + ": has no fault", -1, x.faultPosition());
    }

    /** "If one is refused, none is carried out": the only, the first, and the last of twenty. */
    private static void refusedAtTheEnds() {
        DroverTracks x = Land.rowOf(3, 1);
        x.drive(0, 0);
        String before = Land.whole(x);
        checkRefused(x, "r0", 8, 0, 0);
        checkRefused(x, "r0;e2;f1;d0>2", 8, 0, 0);
        checkRefused(x, "e2;d0>2;d0>2", 10, 2, 2);
        checkRefused(x, "e2;e1;e2;e1;e2;e1;e2;e1;e2;e1;e2;e1;e2;e1;e2;e1;e2;e1;e2;r0", 8, 0, 19);
        checkRefused(x, "f1;f1;f1;f1;f1;f1;f1;f1;f1;f1", 2, 0, 9);
        checkRefused(x, "c0-1;t0-0+9;c1-2;d1>0;r2", 8, 2, 4);
        Check.due("none is carried out", before, Land.whole(x));
        Check.due("nine farms more are no fault", 9, Land.commands(x, "f1;f1;f1;f1;f1;f1;f1;f1;f1"));
    }

    /** Each reason by each command that can be refused for it. */
    private static void refusedForEachReason() {
        DroverTracks x = Land.farms(200, 0, 7);
        x.lay(1, 0);
        x.drive(2, 1);
        String before = Land.whole(x);
        checkRefused(x, "f201", 1, 0, 0);
        checkRefused(x, "l3-4", 3, 3, 0);
        checkRefused(x, "l0-4", 3, 4, 0);
        checkRefused(x, "l2-2", 4, 2, 0);
        checkRefused(x, "l0-1", 5, 1, 0);
        checkRefused(x, "c3-4", 3, 3, 0);
        checkRefused(x, "c0-4", 3, 4, 0);
        checkRefused(x, "c0-2", 6, 0, 0);
        checkRefused(x, "r99", 3, 99, 0);
        checkRefused(x, "r2", 8, 2, 0);
        checkRefused(x, "e12", 3, 12, 0);
        checkRefused(x, "t3-4+1", 3, 3, 0);
        checkRefused(x, "t0-4+1", 3, 4, 0);
        checkRefused(x, "t0-1+51", 1, 0, 0);
        checkRefused(x, "t1-2+1", 7, 2, 0);
        checkRefused(x, "t1-0+1", 9, 0, 0);
        checkRefused(x, "t0-1*1", 9, 1, 0);
        checkRefused(x, "d3>0", 1, 0, 0);
        checkRefused(x, "d2>3", 3, 3, 0);
        checkRefused(x, "d2>1", 10, 1, 0);
        checkRefused(x, "d2>2", 7, 2, 0);
        Check.due("none is carried out", before, Land.whole(x));
    }

    /** Numbers that a text may hold but a command may not are refused, and are no fault. */
    private static void numbersOutOfRange() {
        DroverTracks x = Land.farms(100);
        Check.due("a toll of 200", 1, Land.commands(x, "f200"));
        checkRefused(x, "f201", 1, 0, 0);
        checkRefused(x, "f999", 1, 0, 0);
        Check.due("a toll of 000", 1, Land.commands(x, "f000"));
        Check.due("more by 50", 1, Land.commands(x, "t0-0+50"));
        Check.due("150", 150, x.farmOf(0, 0));
        Check.due("less by 50", 1, Land.commands(x, "t0-0*50"));
        Check.due("100", 100, x.farmOf(0, 0));
        checkRefused(x, "t0-0+51", 1, 0, 0);
        checkRefused(x, "t0-0*51", 1, 0, 0);
        checkRefused(x, "t0-0+99", 1, 0, 0);
        checkRefused(x, "t0-0*99", 1, 0, 0);
        Check.due("more by 0, less by 0", 2, Land.commands(x, "t0-0+0;t0-0*00"));
        Check.due("100 still", 100, x.farmOf(0, 0));
        Check.due("the last drover", 1, Land.commands(x, "d2>0"));
        checkRefused(x, "d3>0", 1, 0, 0);
        checkRefused(x, "d9>99", 1, 0, 0);
        checkRefused(x, "e03", 3, 3, 0);
        checkRefused(x, "e99", 3, 99, 0);
        Check.due("a farm with a 0 ahead", 1, Land.commands(x, "e02"));
    }

    /** "One after the other": each command is judged by what those ahead of it made. */
    private static void commandsSeeThoseAhead() {
        DroverTracks x = new DroverTracks();
        Check.due("a farm just built", 2, Land.commands(x, "f9;e0"));
        checkRefused(x, "f9;e2", 3, 2, 1);
        Check.due("a track just laid", 3, Land.commands(x, "f9;l0-1;c0-1"));
        checkRefused(x, "l0-1;l1-0", 5, 1, 1);
        Check.due("a root just made", 3, Land.commands(x, "l0-1;r0;r1"));
        checkRefused(x, "r0;r0", 8, 0, 1);
        Check.due("a drover just come", 2, Land.commands(x, "d0>0;d0>1"));
        checkRefused(x, "d1>0;d1>0", 10, 0, 1);
        checkRefused(x, "d1>0;c0-1;d1>1", 7, 1, 2);
        checkRefused(x, "t0-0*9;t0-0*1", 9, 0, 1);
        Check.due("a toll just made less", 2, Land.commands(x, "t0-0*9;t0-0+1"));
        Check.due("1", 1, x.farmOf(0, 0));
    }

    /** "Of the latest call of commands; -1 if that text had no fault or there was no such call." */
    private static void faultPositionOfTheLatest() {
        DroverTracks x = Land.rowOf(2, 1);
        Check.due("there was no such call", -1, x.faultPosition());
        x.append('?');
        Check.due("a text that is not told yet", -1, x.faultPosition());
        checkFault(x, "?", 0);
        x.append('f');
        Check.due("of the latest call still", 0, x.faultPosition());
        checkFault(x, "f", 1);
        Land.commands(x, "e0");
        Check.due("carried out: that text had no fault", -1, x.faultPosition());
        Land.text(x, "e0?");
        checkFault(x, "e0?", 2);
        checkRefused(x, "r0", 8, 0, 0);
        Land.text(x, "e0;");
        checkFault(x, "e0;", 3);
        x.undo();
        x.save();
        x.restore();
        Check.due("undo and restore leave it", 3, x.faultPosition());
        Check.throwing("another refusal", UnsupportedOperationException.class, () -> x.root(0));
        Check.due("leaves it", 3, x.faultPosition());
    }

    /** A fault is listed ahead of a refusal, wherever it is, and keeps no reason. */
    private static void faultIsNotRefused() {
        DroverTracks x = Land.alone(1);
        String before = Land.state(x);
        Land.text(x, "r0;r0;?");
        checkFault(x, "refused and a fault", 6);
        Check.throwing("nothing was refused", NoSuchElementException.class, () -> x.reason(0));
        Land.text(x, "f5;f6;");
        checkFault(x, "good commands and a fault", 6);
        Check.due("none is carried out", before, Land.state(x));
        Check.due("and can't be undone", 1, x.account(8));
    }

    // Promise 31: reason

    private static void reasonWhat() {
        DroverTracks x = Land.alone(1);
        int[] none = {-1, 3, 4, LEAST, MOST};
        for (int what : none) {
            Check.throwing("what ahead of nothing: " + what, IllegalArgumentException.class, () -> x.reason(what));
        }
        for (int what = 0; what <= 2; what++) {
            int asked = what;
            Check.throwing("nothing was refused: " + what, NoSuchElementException.class, () -> x.reason(asked));
        }
        Check.refused("the least reason", x, 1, 0, 0, () -> x.farm(-1));
        for (int what : none) {
            Check.throwing("what is not from 0 to 2: " + what, IllegalArgumentException.class, () -> x.reason(what));
        }
        x.drive(0, 0);
        Check.refused("the greatest reason", x, 10, 0, 0, () -> x.drive(0, 0));
        Check.refused("the least detail", x, 3, LEAST, 0, () -> x.root(LEAST));
        Check.refused("the greatest detail", x, 3, MOST, 0, () -> x.root(MOST));
    }

    /** The reason is that of the latest refusal; what succeeds, is undone or restored leaves it. */
    private static void reasonOfTheLatest() {
        DroverTracks x = Land.rowOf(3, 1);
        Check.refused("the first", x, 5, 2, 0, () -> x.lay(0, 2));
        Check.refused("the next in its place", x, 6, 0, 0, () -> x.giveUp(0, 2));
        x.expose(2);
        Check.due("a success leaves it", 6, x.reason(0));
        Check.refused("another one", x, 8, 0, 0, () -> x.root(0));
        x.undo();
        x.save();
        x.restore();
        Check.due("undo and restore leave it", 8, x.reason(0));
        Check.throwing("a question throws", IndexOutOfBoundsException.class, () -> x.size(3));
        Check.throwing("undo throws", IllegalStateException.class, () -> x.undo());
        Check.throwing("a fault", IllegalArgumentException.class, () -> x.commands());
        Check.due("other exceptions leave it", 8, x.reason(0));
        Check.due("with its detail", 0, x.reason(1));
    }

    /** "With the index of the command of a text, from 0, or 0 for another call." */
    private static void reasonIndex() {
        DroverTracks x = Land.alone(2);
        checkRefused(x, "e0;e0;e0;e0;e0;e0;e0;e0;e0;e0;e0;e0;e0;e0;e0;e0;e0;e0;e0;r1", 8, 1, 19);
        checkRefused(x, "r1", 8, 1, 0);
        checkRefused(x, "e0;r1", 8, 1, 1);
        Check.due("a success leaves it", 2, Land.commands(x, "e0;e1"));
        Check.due("the index stays", 1, x.reason(2));
        Check.refused("another call", x, 8, 1, 0, () -> x.root(1));
    }
}
