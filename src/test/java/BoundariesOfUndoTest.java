import java.util.ArrayList;
import java.util.List;

/** The boundary cases that promises 38 to 40 and "Changes" name, each with a check of its own. */
public final class BoundariesOfUndoTest {
    private static final Class<? extends RuntimeException> STATE = IllegalStateException.class;

    /** A change of the object. */
    interface Change {
        void make(DroverTracks x);
    }

    public static void main(String[] args) {
        undoOfNone();
        undoOfEight();
        undoOfEachOfEight();
        undoAroundTheEnd();
        undoOfOneText();
        undoOfOnlyChanges();
        undoLeavesWhatStays();
        undoOfTheFirst();
        saveOfNone();
        saveInPlace();
        saveAndUndo();
        restoreOfNone();
        restoreForgets();
        restoreAgain();
        restoreOfTheFullest();
        restoreLeavesWhatStays();
        Check.end("BoundariesOfUndoTest");
    }

    // Promise 38: undo. "What there was before each of the latest 8 is kept."

    private static void undoOfNone() {
        DroverTracks x = new DroverTracks();
        Check.throwing("there is none", STATE, () -> x.undo());
        Check.throwing("refused", UnsupportedOperationException.class, () -> x.farm(-1));
        Check.throwing("there is none still", STATE, () -> x.undo());
        x.farm(1);
        Check.due("the only one", 0, x.undo());
        Check.throwing("there is none any more", STATE, () -> x.undo());
        Check.due("without farms", 0, x.account(0));
        Check.due("none can be undone", 0, x.account(8));
    }

    private static void undoOfEight() {
        DroverTracks eight = Land.alone(8);
        Check.due("eight are kept", 8, eight.account(8));
        for (int left = 7; left >= 0; left--) {
            Check.due("of eight can still be undone", left, eight.undo());
        }
        Check.due("all eight are undone", 0, eight.account(0));
        DroverTracks nine = Land.alone(9);
        Check.due("eight of nine are kept", 8, nine.account(8));
        for (int left = 7; left >= 0; left--) {
            Check.due("of nine can still be undone", left, nine.undo());
        }
        Check.throwing("the ninth can't", STATE, () -> nine.undo());
        Check.due("the first of nine stays", 1, nine.account(0));
    }

    /** One of each kind, so that each of the eight that are kept holds another state. */
    private static void undoOfEachOfEight() {
        Change[] changes = {
            x -> x.farm(9), x -> x.lay(3, 2), x -> x.expose(3), x -> x.drive(0, 3), x -> x.drive(0, 0),
            x -> x.root(3), x -> x.charge(0, 3, -1), x -> x.giveUp(1, 2),
        };
        DroverTracks x = Land.rowOf(3, 9);
        List<String> before = new ArrayList<>();
        for (Change change : changes) {
            before.add(Land.state(x));
            change.make(x);
        }
        for (int left = 7; left >= 0; left--) {
            Check.due("left", left, x.undo());
            Check.due("what there was before change " + left, before.get(left), Land.state(x));
        }
    }

    /** More changes and undone ones than there are places, in every order of both. */
    private static void undoAroundTheEnd() {
        for (int ahead = 0; ahead <= 17; ahead++) {
            for (int undone = 0; undone <= 8; undone++) {
                DroverTracks x = Land.farms(0);
                x.save();
                x.restore();
                List<Integer> before = new ArrayList<>();
                makeMore(x, before, ahead);
                takeBack(x, before, undone);
                makeMore(x, before, 5);
                takeBack(x, before, 9);
                Check.throwing("there is none", STATE, () -> x.undo());
            }
        }
    }

    private static void makeMore(DroverTracks x, List<Integer> before, int times) {
        for (int time = 0; time < times; time++) {
            before.add(x.farmOf(0, 0));
            if (before.size() > 8) {
                before.remove(0);
            }
            x.charge(0, 0, 1 + before.size() % 3);
            Check.due("kept", before.size(), x.account(8));
        }
    }

    /** Undoes so many changes, or all that there are. */
    private static void takeBack(DroverTracks x, List<Integer> before, int times) {
        for (int time = 0; time < times && !before.isEmpty(); time++) {
            int due = before.remove(before.size() - 1);
            Check.due("can still be undone", before.size(), x.undo());
            Check.due("what there was before", due, x.farmOf(0, 0));
        }
    }

    /** A text is one call, also if it holds more commands than there are changes kept. */
    private static void undoOfOneText() {
        DroverTracks x = Land.rowOf(3, 9);
        String before = Land.state(x);
        Check.due("ten commands", 10, Land.commands(x, "e1;e2;f1;l3-2;r3;t0-3+1;d0>0;d0>3;c0-1;f2"));
        Check.due("one change", 6, x.account(8));
        Check.due("undone at once", 5, x.undo());
        Check.due("all ten", before, Land.state(x));
        Check.due("one command", 1, Land.commands(x, "e2"));
        Check.due("is undone", 5, x.undo());
        Check.due("as well", before, Land.state(x));
    }

    /** "The successful calls of farm, lay, giveUp, root, expose, charge, drive and commands", and no others. */
    private static void undoOfOnlyChanges() {
        DroverTracks x = Land.rowOf(3, 9);
        Check.throwing("refused farm", UnsupportedOperationException.class, () -> x.farm(201));
        Check.throwing("refused lay", UnsupportedOperationException.class, () -> x.lay(0, 2));
        Check.throwing("refused giveUp", UnsupportedOperationException.class, () -> x.giveUp(0, 2));
        Check.throwing("refused root", UnsupportedOperationException.class, () -> x.root(0));
        Check.throwing("refused expose", UnsupportedOperationException.class, () -> x.expose(3));
        Check.throwing("refused charge", UnsupportedOperationException.class, () -> x.charge(0, 1, 51));
        Check.throwing("refused drive", UnsupportedOperationException.class, () -> x.drive(3, 0));
        Land.text(x, "e2;r0");
        Check.throwing("refused commands", UnsupportedOperationException.class, () -> x.commands());
        Check.throwing("a text with a fault", IllegalArgumentException.class, () -> x.commands());
        x.append('e');
        x.save();
        x.way(0, 2);
        x.tree(0);
        Check.due("none of these is a change", 5, x.account(8));
        x.expose(0);
        x.charge(0, 0, 0);
        Check.due("changes that leave all alike are some", 7, x.account(8));
        x.undo();
        Check.due("an undone one is none", 6, x.account(8));
        Check.due("undone", 5, x.undo());
        Check.due("nor is the exposing counted any more", 0, x.account(5));
    }

    /** "The text buffer, the fault position, the reason and the line do not belong to it, and stay." */
    private static void undoLeavesWhatStays() {
        DroverTracks x = Land.rowOf(3, 9);
        x.append('?');
        Check.throwing("a fault", IllegalArgumentException.class, () -> x.commands());
        x.drive(0, 0);
        Check.refused("a reason", x, 10, 0, 0, () -> x.drive(0, 0));
        x.way(2, 0);
        Land.text(x, "f7");
        x.undo();
        x.undo();
        checkStays(x);
        Check.due("the text that stayed", 1, x.commands());
        Check.due("is carried out", 7, x.farmOf(3, 0));
        Check.due("without a fault", -1, x.faultPosition());
        x.undo();
        Check.due("undoing it brings no text back", 0, x.account(9));
        Check.due("and no fault position", -1, x.faultPosition());
    }

    private static void checkStays(DroverTracks x) {
        Check.due("the text buffer stays", 2, x.account(9));
        Check.due("the fault position stays", 0, x.faultPosition());
        Check.due("the reason stays", 10, x.reason(0));
        Check.due("the line stays", "2$9>1$9>0$9", Land.written(x));
    }

    /** What there was before the first farm: also the drovers come to nowhere again. */
    private static void undoOfTheFirst() {
        DroverTracks x = new DroverTracks();
        Land.commands(x, "f5;f6;l1-0;d0>0;d1>1;d2>0;d2>1");
        Check.due("the only change", 0, x.undo());
        for (int drover = 0; drover <= 2; drover++) {
            Check.due("nowhere again", -1, x.drover(drover));
        }
        for (int what = 0; what <= 9; what++) {
            Check.due("as new: account " + what, 0, x.account(what));
        }
        Check.due("numbered from 0 again", 0, x.farm(1));
        Check.throwing("with no drive so far", ArithmeticException.class, () -> x.paidShare());
    }

    // Promise 39: save

    private static void saveOfNone() {
        DroverTracks x = new DroverTracks();
        Check.due("no farms", 0, x.save());
        Check.due("is no change", 0, x.account(8));
        Check.throwing("nothing to undo", STATE, () -> x.undo());
        Check.due("there is a snapshot", 0, x.restore());
        x.farm(1);
        Check.due("one farm", 1, x.save());
        DroverTracks full = Land.rowOf(12, 1);
        Check.due("twelve farms", 12, full.save());
        Check.due("leaves what can be undone", 8, full.account(8));
    }

    private static void saveInPlace() {
        DroverTracks x = Land.alone(3);
        x.save();
        x.undo();
        Check.due("in place of an earlier one", 2, x.save());
        x.undo();
        Check.due("the earlier one is gone", 2, x.restore());
        x.farm(1);
        x.farm(1);
        Check.due("again in place", 4, x.save());
        x.undo();
        Check.due("the latest", 4, x.restore());
    }

    /** The snapshot is no part of what undo brings back, nor does a later change reach it. */
    private static void saveAndUndo() {
        DroverTracks x = Land.rowOf(2, 9);
        x.expose(1);
        x.save();
        String saved = Land.state(x);
        x.undo();
        x.undo();
        x.charge(0, 0, 1);
        Check.due("saved ahead of what is undone", 2, x.restore());
        Check.due("all as saved", saved, Land.state(x));
        x.charge(0, 1, -9);
        x.root(1);
        x.drive(0, 0);
        x.restore();
        Check.due("changes do not reach it", saved, Land.state(x));
    }

    // Promise 40: restore

    private static void restoreOfNone() {
        DroverTracks x = new DroverTracks();
        Check.throwing("there is no snapshot", STATE, () -> x.restore());
        x.farm(1);
        x.farm(2);
        x.undo();
        String before = Land.whole(x);
        Check.throwing("there is no snapshot still", STATE, () -> x.restore());
        Check.due("all is left", before, Land.whole(x));
        Check.due("also what can be undone", 0, x.undo());
    }

    /** "Restore forgets it": nothing can be undone then, not even what came ahead of the snapshot. */
    private static void restoreForgets() {
        DroverTracks x = Land.alone(9);
        x.save();
        Check.due("eight are kept", 8, x.account(8));
        x.restore();
        Check.due("none is kept", 0, x.account(8));
        Check.throwing("nothing to undo", STATE, () -> x.undo());
        for (int kept = 1; kept <= 9; kept++) {
            x.charge(0, 0, 1);
            Check.due("kept anew", Math.min(kept, 8), x.account(8));
        }
        for (int left = 7; left >= 0; left--) {
            Check.due("undone", left, x.undo());
            Check.due("the toll", 2 + left, x.farmOf(0, 0));
        }
        Check.throwing("no more", STATE, () -> x.undo());
    }

    private static void restoreAgain() {
        DroverTracks x = Land.rowOf(3, 9);
        x.save();
        String saved = Land.state(x);
        for (int time = 0; time < 3; time++) {
            x.farm(time);
            x.giveUp(0, 1);
            Check.due("the snapshot is kept", 3, x.restore());
            Check.due("all as saved", saved, Land.state(x));
        }
        Check.due("twice without a change between", 3, x.restore());
        Check.due("all as saved still", saved, Land.state(x));
    }

    /** From all that can be to nothing, and back. */
    private static void restoreOfTheFullest() {
        DroverTracks x = Land.rowOf(12, 200);
        x.drive(0, 0);
        x.drive(1, 5);
        x.drive(2, 11);
        x.drive(0, 11);
        String saved = Land.state(x);
        x.save();
        for (int time = 0; time < 8; time++) {
            x.undo();
        }
        x.root(4);
        Check.due("twelve farms", 12, x.restore());
        Check.due("all as saved", saved, Land.state(x));
        DroverTracks y = new DroverTracks();
        y.save();
        Land.commands(y, "f1;f2;f3;f4;f5;f6;f7;f8;f9;f10;f11;f12;l0-1;d0>0;d0>1;e0");
        Check.due("no farms", 0, y.restore());
        Check.due("no trees", 0, y.trees());
        Check.due("as new", Land.state(new DroverTracks()), Land.state(y));
    }

    private static void restoreLeavesWhatStays() {
        DroverTracks x = Land.rowOf(3, 9);
        x.save();
        x.append('?');
        Check.throwing("a fault", IllegalArgumentException.class, () -> x.commands());
        x.drive(0, 0);
        Check.refused("a reason", x, 10, 0, 0, () -> x.drive(0, 0));
        x.way(2, 0);
        Land.text(x, "f7");
        x.restore();
        checkStays(x);
        Check.due("the text that stayed", 1, x.commands());
        Check.due("can be undone", 0, x.undo());
    }
}
