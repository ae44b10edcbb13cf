/** Promises 38 to 40: undo and the snapshot. */
public final class UndoTest {
    /** A change of the object. */
    interface Change {
        void make(DroverTracks x);
    }

    public static void main(String[] args) {
        promise38UndoOfEachChange();
        promise38UndoOfTheLatestEight();
        promise38RefusedKeepsTheOldest();
        promise38WhatStays();
        promise38UndoAndGoOn();
        promise39Save();
        promise40Restore();
        Check.end("UndoTest");
    }

    private static void promise38UndoOfEachChange() {
        checkUndo("farm", x -> x.farm(9));
        checkUndo("lay", x -> x.lay(3, 5));
        checkUndo("giveUp", x -> x.giveUp(1, 0));
        checkUndo("root", x -> x.root(2));
        checkUndo("expose", x -> x.expose(2));
        checkUndo("charge", x -> x.charge(2, 4, -3));
        checkUndo("drive", x -> x.drive(0, 4));
        checkUndo("to come", x -> x.drive(1, 5));
        checkUndo("commands", x -> Land.commands(x, "f7;l6-2;r6;e4;t6-4+2;d0>6;c0-1"));
    }

    private static void checkUndo(String name, Change change) {
        DroverTracks x = Land.tree();
        x.expose(3);
        x.drive(0, 2);
        String before = Land.all(x);
        change.make(x);
        Check.due(name + " changes", false, before.equals(Land.all(x)));
        Check.due(name + " can be undone", 8, x.account(8));
        Check.due(name + " is undone", 7, x.undo());
        Check.due(name + ": all as before", before, Land.all(x));
    }

    private static void promise38UndoOfTheLatestEight() {
        DroverTracks x = new DroverTracks();
        Check.throwing("nothing", IllegalStateException.class, () -> x.undo());
        for (int farm = 0; farm < 12; farm++) {
            x.farm(farm);
            Check.due("kept", Math.min(farm + 1, 8), x.account(8));
        }
        for (int left = 7; left >= 0; left--) {
            Check.due("left", left, x.undo());
            Check.due("farms", 4 + left, x.account(0));
        }
        Check.throwing("no more", IllegalStateException.class, () -> x.undo());
        Check.due("four stay", 4, x.account(0));
        Check.due("the number is given again", 4, x.farm(77));
        Check.due("undone", 0, x.undo());
        Check.throwing("nothing again", IllegalStateException.class, () -> x.undo());
    }

    private static void promise38RefusedKeepsTheOldest() {
        DroverTracks x = Land.farms(1, 2, 3, 4, 5, 6, 7, 8, 9);
        Land.text(x, "f5;f201");
        Check.refused("a text", x, 1, 0, 1, () -> x.commands());
        Check.refused("a call", x, 1, 0, 0, () -> x.farm(201));
        Land.text(x, "f5;");
        Check.throwing("a fault", IllegalArgumentException.class, () -> x.commands());
        for (int left = 7; left >= 0; left--) {
            Check.due("left", left, x.undo());
        }
        Check.due("the oldest", 1, x.account(0));
    }

    private static void promise38WhatStays() {
        DroverTracks x = Land.tree();
        Land.text(x, "x");
        Check.throwing("a fault", IllegalArgumentException.class, () -> x.commands());
        Check.refused("a reason", x, 8, 0, 0, () -> x.root(0));
        x.way(2, 4);
        x.append('f');
        x.append('3');
        x.undo();
        Check.due("the buffer", 2, x.account(9));
        Check.due("the fault position", 0, x.faultPosition());
        Check.due("the reason", 8, x.reason(0));
        Check.due("the line", "2$30>1$20>0$10>4$7", Land.line(x, 18));
        Check.due("the text of the buffer", 1, x.commands());
        Check.due("is carried out", 3, x.farmOf(6, 0));
    }

    private static void promise38UndoAndGoOn() {
        DroverTracks x = Land.tree();
        x.expose(3);
        x.undo();
        x.expose(4);
        x.root(4);
        Check.due("back", 7, x.undo());
        Check.due("the other exposing", "0(1(2 3) !4)", Land.tree(x, 0));
        Check.due("further back", 6, x.undo());
        Check.due("none", "0(1(2 3) 4)", Land.tree(x, 0));
        x.save();
        Check.due("saving leaves it", 6, x.account(8));
        Check.due("and can't be undone", 5, x.undo());
        Check.due("a track less", 3, x.account(1));
    }

    private static void promise39Save() {
        DroverTracks empty = new DroverTracks();
        Check.due("no farms", 0, empty.save());
        empty.farm(1);
        Check.due("restored without farms", 0, empty.restore());
        DroverTracks x = Land.tree();
        x.expose(3);
        x.drive(0, 2);
        x.drive(0, 4);
        Check.due("six", 6, x.save());
        String saved = Land.all(x);
        x.charge(0, 2, 9);
        Check.due("the snapshot is no part of what is undone", 7, x.undo());
        x.root(2);
        x.restore();
        Check.due("as saved", saved, Land.all(x));
        x.farm(1);
        Check.due("in place of the earlier one", 7, x.save());
        String again = Land.all(x);
        x.undo();
        Check.due("seven", 7, x.restore());
        Check.due("as saved again", again, Land.all(x));
    }

    private static void promise40Restore() {
        DroverTracks x = Land.tree();
        Check.throwing("no snapshot", IllegalStateException.class, () -> x.restore());
        Check.due("and none is made", 8, x.account(8));
        x.save();
        String saved = Land.all(x);
        Land.text(x, "x");
        Check.throwing("a fault", IllegalArgumentException.class, () -> x.commands());
        Check.refused("a reason", x, 8, 0, 0, () -> x.root(0));
        x.farm(3);
        x.drive(2, 6);
        x.lay(6, 0);
        x.append('e');
        x.way(0, 6);
        Check.due("six", 6, x.restore());
        Check.due("the buffer stays", 1, x.account(9));
        Check.due("the fault position stays", 0, x.faultPosition());
        Check.due("the reason stays", 8, x.reason(0));
        Check.due("the line stays", "0$10>6$3", Land.line(x, 8));
        Check.due("nothing can be undone", 0, x.account(8));
        Check.throwing("nothing to undo", IllegalStateException.class, () -> x.undo());
        Check.due("as saved", saved, Land.all(x));
        x.root(2);
        Check.due("what comes can be undone", 0, x.undo());
        Check.due("to the snapshot", saved, Land.all(x));
        x.root(2);
        Check.due("the snapshot is kept", 6, x.restore());
        Check.due("as saved again", saved, Land.all(x));
    }
}
