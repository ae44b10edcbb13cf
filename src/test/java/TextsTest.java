import java.util.NoSuchElementException;

/** Promises 28 to 31: the text buffer, commands, faults by place, and reasons. */
public final class TextsTest {
    public static void main(String[] args) {
        promise28Append();
        promise29Commands();
        promise29CommandsAsMethods();
        promise29CommandsRefused();
        promise29LongestText();
        promise30FaultPosition();
        promise30Faults();
        promise31Reason();
        Check.end("TextsTest");
    }

    private static void promise28Append() {
        DroverTracks x = new DroverTracks();
        for (int length = 1; length <= 60; length++) {
            Check.due("append", length, x.append(length % 2 == 0 ? '1' : (char) (length * 1000)));
        }
        Check.throwing("the 61st", IllegalStateException.class, () -> x.append('f'));
        Check.due("stays full", 60, x.account(9));
        Check.throwing("a fault", IllegalArgumentException.class, () -> x.commands());
        Check.due("empty after it", 1, x.append('f'));
    }

    private static void promise29Commands() {
        DroverTracks x = new DroverTracks();
        Check.due("nine", 9, Land.commands(x, "f5;f6;f007;l1-0;l2-01;e2;t0-2+3;d0>2;d0>0"));
        Check.due("buffer", 0, x.account(9));
        Check.due("tree", "0(1(!2))", Land.tree(x, 0));
        Check.due("way", "0$8>1$9>2$10", Land.way(x, 0, 2));
        Check.due("drover", 0, x.drover(0));
        Check.due("one change", 1, x.account(8));
        Check.due("less", 1, Land.commands(x, "t2-0*8"));
        Check.due("less by 8", "0$0>1$1>2$2", Land.way(x, 0, 2));
        Check.due("root and give up", 3, Land.commands(x, "r2;c0-1;r1"));
        Check.due("parted", 2, x.trees());
        Check.due("rooted", "1(2)", Land.tree(x, 1));
        Check.due("nothing was refused", "none", x.faultPosition() == -1 ? "none" : "a fault");
        Check.due("undo of a text", 2, x.undo());
        Check.due("all of it", "0(1(!2))", Land.tree(x, 0));
    }

    /** Each command must do what its method does, also for numbers of the most digits. */
    private static void promise29CommandsAsMethods() {
        DroverTracks byText = Land.row(12);
        DroverTracks byCall = Land.row(12);
        Land.commands(byText, "c10-11;l11-0;r11;e10;t10-11+50;t09-00*05;d2>10;d2>11");
        byCall.giveUp(10, 11);
        byCall.lay(11, 0);
        byCall.root(11);
        byCall.expose(10);
        byCall.charge(10, 11, 50);
        byCall.charge(9, 0, -5);
        byCall.drive(2, 10);
        byCall.drive(2, 11);
        Check.due("as the methods would", Land.all(byCall), Land.all(byText));
        DroverTracks x = new DroverTracks();
        Land.commands(x, "f200;f0;t0-0*50;t0-0+00;t0-0*0");
        Check.due("150", 150, x.farmOf(0, 0));
        Check.due("0", 0, x.farmOf(1, 0));
    }

    private static void promise29CommandsRefused() {
        DroverTracks x = Land.tree();
        x.expose(3);
        String before = Land.all(x);
        int changes = x.account(8);
        checkRefused(x, "e2;d0>1;d0>2;r0", 8, 0, 3);
        checkRefused(x, "f201", 1, 0, 0);
        checkRefused(x, "f1;f1;f1;f1;f1;f1;f1", 2, 0, 6);
        checkRefused(x, "f1;l6-0;l7-0", 3, 7, 2);
        checkRefused(x, "l0-99;l98-0", 3, 99, 0);
        checkRefused(x, "l5-5", 4, 5, 0);
        checkRefused(x, "l5-2;l4-5", 5, 4, 1);
        checkRefused(x, "c0-1;c0-1", 6, 0, 1);
        checkRefused(x, "t0-1+51", 1, 0, 0);
        checkRefused(x, "t0-1*99", 1, 0, 0);
        checkRefused(x, "e0;t5-0+5", 7, 1, 1);
        checkRefused(x, "t4-0*8", 9, 4, 0);
        checkRefused(x, "d3>0", 1, 0, 0);
        checkRefused(x, "d9>99", 1, 0, 0);
        checkRefused(x, "d1>2;d1>2", 10, 2, 1);
        checkRefused(x, "d1>2;d1>5", 7, 5, 1);
        checkRefused(x, "r5;f999", 8, 5, 0);
        Check.due("none is carried out", before, Land.all(x));
        Check.due("no change is kept", changes, x.account(8));
        x.undo();
        x.undo();
        x.undo();
        Check.due("what there was before stays", "0(1(2))", Land.tree(x, 0));
    }

    private static void checkRefused(DroverTracks x, String text, int reason, int detail, int command) {
        Land.text(x, text);
        Check.refused(text, x, reason, detail, command, () -> x.commands());
        Check.due(text + ": buffer", 0, x.account(9));
        Check.due(text + ": no fault", -1, x.faultPosition());
    }

    private static void promise29LongestText() {
        DroverTracks x = Land.tree();
        StringBuilder text = new StringBuilder("e00");
        for (int more = 1; more < 20; more++) {
            text.append(";e").append(more % 5);
        }
        Check.due("sixty characters", 60, text.length());
        Check.due("twenty", 20, Land.commands(x, text.toString()));
        Check.due("twenty exposings", 20, x.account(5));
        Check.due("the last one", 4, x.exposed(0, 1));
    }

    private static void checkFault(DroverTracks x, String text, int due) {
        Land.text(x, text);
        Check.throwing(text, IllegalArgumentException.class, () -> x.commands());
        Check.due(text + ": fault position", due, x.faultPosition());
        Check.due(text + ": buffer", 0, x.account(9));
    }

    private static void promise30FaultPosition() {
        DroverTracks x = Land.tree();
        String before = Land.all(x);
        Check.due("no call yet", -1, x.faultPosition());
        checkFault(x, "", 0);
        checkFault(x, "e0;", 3);
        Check.due("a fault is no reason", "none", hasReason(x) ? "kept" : "none");
        Land.commands(x, "e0");
        Check.due("no fault", -1, x.faultPosition());
        checkFault(x, "e0;x", 3);
        x.undo();
        Check.due("stays over undo", 3, x.faultPosition());
        x.save();
        x.restore();
        Check.due("stays over restore", 3, x.faultPosition());
        Land.text(x, "r0");
        Check.throwing("refused", UnsupportedOperationException.class, () -> x.commands());
        Check.due("a refused text has no fault", -1, x.faultPosition());
        checkFault(x, "r0;", 3);
        Check.due("a text with a fault is not carried out", before, Land.all(x));
    }

    private static boolean hasReason(DroverTracks x) {
        try {
            x.reason(0);
            return true;
        } catch (NoSuchElementException e) {
            return false;
        }
    }

    private static void promise30Faults() {
        DroverTracks x = Land.tree();
        checkFault(x, "F1", 0);
        checkFault(x, " f1", 0);
        checkFault(x, ";", 0);
        checkFault(x, "1", 0);
        checkFault(x, "f", 1);
        checkFault(x, "fx", 1);
        checkFault(x, "f-1", 1);
        checkFault(x, "f1x", 2);
        checkFault(x, "f1234", 4);
        checkFault(x, "f1;;f2", 3);
        checkFault(x, "f1 ;f2", 2);
        checkFault(x, "l", 1);
        checkFault(x, "l1", 2);
        checkFault(x, "l1;", 2);
        checkFault(x, "l12", 3);
        checkFault(x, "l123", 3);
        checkFault(x, "l1-", 3);
        checkFault(x, "l1-x", 3);
        checkFault(x, "l1-234", 5);
        checkFault(x, "c1>2", 2);
        checkFault(x, "c1-2-3", 4);
        checkFault(x, "r", 1);
        checkFault(x, "r123", 3);
        checkFault(x, "e1-2", 2);
        checkFault(x, "t0-1", 4);
        checkFault(x, "t0-1;", 4);
        checkFault(x, "t0-1-5", 4);
        checkFault(x, "t0-1+", 5);
        checkFault(x, "t0-1+*5", 5);
        checkFault(x, "t0-1+-5", 5);
        checkFault(x, "t0-1*123", 7);
        checkFault(x, "t0+1+1", 2);
        checkFault(x, "t0*1", 2);
        checkFault(x, "d", 1);
        checkFault(x, "d>1", 1);
        checkFault(x, "d12>3", 2);
        checkFault(x, "d1-3", 2);
        checkFault(x, "d1>", 3);
        checkFault(x, "d1>123", 5);
        checkFault(x, "f1;l0-0;q", 8);
        checkFault(x, "f" + (char) 0, 1);
        checkFault(x, "e0" + (char) 0, 2);
        checkFault(x, "f" + (char) 0x661, 1);
        checkFault(x, "f" + (char) 0x131, 1);
        checkFault(x, "" + (char) 0xffff, 0);
        checkFault(x, "f1/", 2);
        checkFault(x, "f1:", 2);
    }

    private static void promise31Reason() {
        DroverTracks x = Land.tree();
        Check.throwing("nothing yet", NoSuchElementException.class, () -> x.reason(2));
        Check.throwing("what first", IllegalArgumentException.class, () -> x.reason(3));
        Check.throwing("what -1", IllegalArgumentException.class, () -> x.reason(-1));
        checkRefused(x, "e0;e1;r0", 8, 0, 2);
        x.undo();
        Check.due("stays over undo", 8, x.reason(0));
        x.save();
        x.restore();
        Check.due("stays over restore", 2, x.reason(2));
        x.expose(1);
        Check.due("stays over a call that is not refused", 8, x.reason(0));
        Land.commands(x, "e1");
        Check.due("stays over a text that is not refused", 2, x.reason(2));
        checkFault(x, "e1;", 3);
        Check.due("stays over a fault", 2, x.reason(2));
        Check.throwing("another exception", IndexOutOfBoundsException.class, () -> x.size(9));
        Check.due("is no reason", 8, x.reason(0));
        Check.refused("another call has the index 0", x, 3, 9, 0, () -> x.expose(9));
        Check.throwing("what 3", IllegalArgumentException.class, () -> x.reason(3));
        Check.throwing("what -1, kept", IllegalArgumentException.class, () -> x.reason(-1));
    }
}
