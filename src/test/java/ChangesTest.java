/** Promises 1 to 8: a new object, and the changes as methods. */
public final class ChangesTest {
    private static final int LEAST = Integer.MIN_VALUE;
    private static final int MOST = Integer.MAX_VALUE;

    public static void main(String[] args) {
        promise1NewObject();
        promise2Farm();
        promise3Lay();
        promise3LayRootsAnew();
        promise4GiveUp();
        promise4GiveUpAndPreferences();
        promise5Root();
        promise6Expose();
        promise7Charge();
        promise7ChargeRefused();
        promise8Drive();
        promise8DriveRefused();
        refusedLeavesAll();
        Check.end("ChangesTest");
    }

    private static void promise1NewObject() {
        DroverTracks x = new DroverTracks();
        for (int what = 0; what <= 9; what++) {
            Check.due("new: account " + what, 0, x.account(what));
        }
        Check.due("new: trees", 0, x.trees());
        Check.due("new: faultPosition", -1, x.faultPosition());
        for (int drover = 0; drover < 3; drover++) {
            Check.due("new: drover " + drover, -1, x.drover(drover));
        }
        Check.throwing("new: farmOf", IndexOutOfBoundsException.class, () -> x.farmOf(0, 0));
        Check.throwing("new: reason", java.util.NoSuchElementException.class, () -> x.reason(0));
        Check.throwing("new: undo", IllegalStateException.class, () -> x.undo());
        Check.throwing("new: restore", IllegalStateException.class, () -> x.restore());
        Check.throwing("new: character", IndexOutOfBoundsException.class, () -> x.character(0));
        DroverTracks other = new DroverTracks();
        other.farm(1);
        Check.due("objects share nothing", 0, x.account(0));
    }

    private static void promise2Farm() {
        DroverTracks x = new DroverTracks();
        Check.refused("farm(201)", x, 1, 0, 0, () -> x.farm(201));
        Check.refused("farm(-1)", x, 1, 0, 0, () -> x.farm(-1));
        Check.refused("farm(least)", x, 1, 0, 0, () -> x.farm(LEAST));
        Check.refused("farm(most)", x, 1, 0, 0, () -> x.farm(MOST));
        Check.due("refused builds nothing", 0, x.account(0));
        Check.due("first", 0, x.farm(200));
        Check.due("second", 1, x.farm(0));
        Check.due("toll 200", 200, x.farmOf(0, 0));
        Check.due("toll 0", 0, x.farmOf(1, 0));
        Check.due("is a root", 1, x.farmOf(1, 6));
        Check.due("has no parent", -1, x.farmOf(1, 1));
        Check.due("prefers none", -1, x.farmOf(1, 2));
        for (int farm = 2; farm < 12; farm++) {
            Check.due("next", farm, x.farm(farm));
        }
        Check.refused("13th", x, 2, 0, 0, () -> x.farm(5));
        Check.refused("13th, range first", x, 1, 0, 0, () -> x.farm(201));
        Check.due("twelve", 12, x.account(0));
    }

    private static void promise3Lay() {
        DroverTracks x = Land.farms(1, 2, 3, 4);
        Check.due("two", 2, x.lay(1, 0));
        Check.due("the other is the parent", 0, x.farmOf(1, 1));
        Check.due("two more", 2, x.lay(3, 2));
        Check.due("both trees", 4, x.lay(2, 1));
        Check.due("as told", "0(1(2(3)))", Land.tree(x, 0));
        Check.refused("no one", x, 3, 4, 0, () -> x.lay(4, 7));
        Check.refused("no other", x, 3, 7, 0, () -> x.lay(0, 7));
        Check.refused("no other below", x, 3, -1, 0, () -> x.lay(0, -1));
        Check.refused("no one, most", x, 3, MOST, 0, () -> x.lay(MOST, LEAST));
        Check.refused("no such farm, both one", x, 3, 9, 0, () -> x.lay(9, 9));
        Check.refused("one farm", x, 4, 2, 0, () -> x.lay(2, 2));
        Check.refused("one tree, a track", x, 5, 1, 0, () -> x.lay(0, 1));
        Check.refused("one tree, far", x, 5, 3, 0, () -> x.lay(3, 0));
    }

    private static void promise3LayRootsAnew() {
        DroverTracks x = Land.row(4);
        x.farm(9);
        x.expose(3);
        Check.due("from within a tree", 5, x.lay(2, 4));
        Check.due("rooted anew at the one, whose way prefers none", "4(2(1(0) 3))", Land.tree(x, 4));
        Check.due("rooting anew for a track is no exposing", 1, x.account(5));
        Check.due("nor is it counted", 3, x.account(4));

        DroverTracks beside = Land.tree();
        beside.expose(4);
        beside.lay(2, 5);
        Check.due("a farm beside the way prefers on", "5(2(1(0(4) 3)))", Land.tree(beside, 5));

        DroverTracks aside = Land.row(2);
        aside.farm(3);
        aside.farm(4);
        aside.lay(2, 1);
        aside.lay(3, 1);
        aside.expose(2);
        aside.farm(5);
        aside.lay(0, 4);
        Check.due("a root prefers on, the other nothing new", "4(0(!1(!2 3)))", Land.tree(aside, 4));
        aside.farm(6);
        aside.farm(7);
        aside.lay(6, 5);
        aside.expose(6);
        aside.lay(4, 5);
        Check.due("the other prefers on", "5(4(0(!1(!2 3))) !6)", Land.tree(aside, 5));
    }

    private static void promise4GiveUp() {
        DroverTracks x = Land.tree();
        Check.due("the lower tree", 3, x.giveUp(1, 0));
        Check.due("the child is its root", 1, x.farmOf(1, 6));
        Check.due("the upper tree", "0(4)", Land.tree(x, 0));
        Check.due("the lower tree stays", "1(2 3)", Land.tree(x, 1));
        DroverTracks y = Land.tree();
        Check.due("told the other way", 3, y.giveUp(0, 1));
        Check.due("the same", Land.all(x), Land.all(y));
        Check.due("a leaf", 1, y.giveUp(3, 1));
        Check.refused("no one", y, 3, 6, 0, () -> y.giveUp(6, -1));
        Check.refused("no other", y, 3, -1, 0, () -> y.giveUp(0, -1));
        Check.refused("the root and none", y, 3, -1, 0, () -> y.giveUp(-1, 0));
        Check.refused("no track", y, 6, 0, 0, () -> y.giveUp(0, 2));
        Check.refused("given up", y, 6, 0, 0, () -> y.giveUp(0, 1));
        Check.refused("one farm", y, 6, 0, 0, () -> y.giveUp(2, 2));
        y.drive(0, 4);
        Check.due("a drover does not hinder", 1, y.giveUp(4, 0));
        Check.due("and stays", 4, y.drover(0));
    }

    private static void promise4GiveUpAndPreferences() {
        DroverTracks x = Land.tree();
        x.expose(2);
        x.giveUp(1, 0);
        Check.due("the parent preferred the child", -1, x.farmOf(0, 2));
        Check.due("the child prefers on", 2, x.farmOf(1, 2));
        DroverTracks y = Land.tree();
        y.expose(4);
        y.giveUp(1, 0);
        Check.due("the parent prefers another one on", 4, y.farmOf(0, 2));
    }

    private static void promise5Root() {
        DroverTracks x = Land.tree();
        x.expose(2);
        Check.due("root before", 0, x.root(2));
        Check.due("turned, and none is preferred", "2(1(0(4) 3))", Land.tree(x, 2));
        Check.due("no exposing", 1, x.account(5));
        Check.due("not counted", 2, x.account(4));
        Check.due("back", 2, x.root(0));
        Check.due("as before", "0(1(2 3) 4)", Land.tree(x, 0));
        x.expose(4);
        x.root(1);
        Check.due("the old root prefers none", -1, x.farmOf(0, 2));
        x.expose(4);
        x.root(3);
        Check.due("a farm that is not turned prefers on", "3(1(0(!4) 2))", Land.tree(x, 3));
        Check.refused("no farm", x, 3, 6, 0, () -> x.root(6));
        Check.refused("no farm below", x, 3, -1, 0, () -> x.root(-1));
        Check.refused("the root", x, 8, 3, 0, () -> x.root(3));
        Check.refused("a farm alone", x, 8, 5, 0, () -> x.root(5));
        DroverTracks y = Land.tree();
        y.expose(2);
        y.root(1);
        Check.due("the farm itself prefers none", -1, y.farmOf(1, 2));
    }

    private static void promise6Expose() {
        DroverTracks x = Land.tree();
        Check.due("two prefer", 2, x.expose(2));
        Check.due("the way", "0(!1(!2 3) 4)", Land.tree(x, 0));
        Check.due("again none", 0, x.expose(2));
        Check.due("one turns to another", 1, x.expose(3));
        Check.due("the farm itself prefers none", 1, x.expose(1));
        Check.due("none behind", "0(!1(2 3) 4)", Land.tree(x, 0));
        x.expose(2);
        Check.due("beside the way", 1, x.expose(4));
        Check.due("the rest stays", "0(1(!2 3) !4)", Land.tree(x, 0));
        Check.due("the root", 1, x.expose(0));
        Check.due("prefers none", -1, x.farmOf(0, 2));
        Check.due("a farm alone", 0, x.expose(5));
        Check.due("exposings", 8, x.account(5));
        Check.due("preferences changed", 7, x.account(4));
        Check.refused("no farm", x, 3, 6, 0, () -> x.expose(6));
        Check.refused("no farm below", x, 3, LEAST, 0, () -> x.expose(LEAST));
        Check.due("refused does not count", 8, x.account(5));
    }

    private static void promise7Charge() {
        DroverTracks x = Land.tree();
        Check.due("more", 5 + 20 + 10 + 7 + 4 * 5, x.charge(3, 4, 5));
        Check.due("on the way", "3$10>1$25>0$15>4$12", Land.way(x, 3, 4));
        Check.due("beside the way", 30, x.farmOf(2, 0));
        Check.due("less", 10 + 25 + 15 + 12 - 4 * 10, x.charge(4, 3, -10));
        Check.due("to 0", 0, x.farmOf(3, 0));
        Check.due("one farm", 32, x.charge(2, 2, 2));
        Check.due("by 0", 32 + 15, x.charge(2, 1, 0));
        Check.due("by 0 is a change", 8, x.account(8));
        Check.due("by 50", 100, x.charge(5, 5, 50));
        Check.due("to 150", 150, x.charge(5, 5, 50));
        Check.due("to 200", 200, x.charge(5, 5, 50));
        Check.due("by -50", 150, x.charge(5, 5, -50));
    }

    private static void promise7ChargeRefused() {
        DroverTracks x = Land.tree();
        Check.refused("no one", x, 3, 6, 0, () -> x.charge(6, 7, 51));
        Check.refused("no other", x, 3, -2, 0, () -> x.charge(0, -2, 51));
        Check.refused("51", x, 1, 0, 0, () -> x.charge(0, 5, 51));
        Check.refused("-51", x, 1, 0, 0, () -> x.charge(0, 1, -51));
        Check.refused("least", x, 1, 0, 0, () -> x.charge(0, 1, LEAST));
        Check.refused("most", x, 1, 0, 0, () -> x.charge(0, 1, MOST));
        Check.refused("unlike trees", x, 7, 5, 0, () -> x.charge(1, 5, 1));
        Check.refused("unlike trees, turned", x, 7, 1, 0, () -> x.charge(5, 1, -50));
        Check.refused("below 0, the first", x, 9, 3, 0, () -> x.charge(2, 3, -6));
        Check.refused("below 0, the first from the other end", x, 9, 4, 0, () -> x.charge(4, 3, -8));
        Check.refused("below 0, the first from this end", x, 9, 3, 0, () -> x.charge(3, 4, -8));
        x.charge(1, 1, 50);
        x.charge(1, 1, 50);
        x.charge(1, 1, 50);
        Check.refused("above 200, in the middle", x, 9, 1, 0, () -> x.charge(2, 4, 31));
        Check.due("nothing is charged", "2$30>1$170>0$10>4$7", Land.way(x, 2, 4));
        Check.due("just 200", 200, x.charge(1, 1, 30));
        Check.refused("201", x, 9, 1, 0, () -> x.charge(1, 1, 1));
    }

    private static void promise8Drive() {
        DroverTracks x = Land.tree();
        Check.due("comes from nowhere", 0, x.drive(0, 3));
        Check.due("exposes nothing", "0(1(2 3) 4)", Land.tree(x, 0));
        Check.due("does not drive", 0, x.account(6));
        Check.due("counts no exposing", 0, x.account(5));
        Check.due("but can be undone", 8, x.account(8));
        Check.due("stands there", 3, x.drover(0));
        Check.due("pays all but the first", 20 + 10 + 7, x.drive(0, 4));
        Check.due("is there", 4, x.drover(0));
        Check.due("has exposed", "0(1(2 3) !4)", Land.tree(x, 0));
        Check.due("one drive", 1, x.account(6));
        Check.due("one exposing", 1, x.account(5));
        Check.due("one preference", 1, x.account(4));
        Check.due("paid", 37, x.account(7));
        Check.due("another one", 0, x.drive(2, 4));
        Check.due("to the root", 10, x.drive(2, 0));
        Check.due("prefers none then", "0(1(2 3) 4)", Land.tree(x, 0));
        Check.due("the first stays", 4, x.drover(0));
        Check.due("the second is nowhere", -1, x.drover(1));
        Check.due("two drives", 2, x.account(6));
        Check.due("both paid", 47, x.account(7));
        Check.due("two preferences", 2, x.account(4));
    }

    private static void promise8DriveRefused() {
        DroverTracks x = Land.tree();
        Check.refused("no drover", x, 1, 0, 0, () -> x.drive(3, 99));
        Check.refused("no drover below", x, 1, 0, 0, () -> x.drive(-1, 0));
        Check.refused("no farm", x, 3, 6, 0, () -> x.drive(0, 6));
        Check.refused("no farm below", x, 3, -1, 0, () -> x.drive(0, -1));
        x.drive(1, 2);
        Check.refused("there already", x, 10, 2, 0, () -> x.drive(1, 2));
        Check.refused("unlike trees", x, 7, 5, 0, () -> x.drive(1, 5));
        x.drive(0, 5);
        Check.refused("unlike trees, from the farm alone", x, 7, 1, 0, () -> x.drive(0, 2));
        Check.due("stays", 5, x.drover(0));
        x.giveUp(1, 0);
        Check.refused("the track is given up", x, 7, 3, 0, () -> x.drive(1, 0));
    }

    private static void refusedLeavesAll() {
        DroverTracks x = Land.tree();
        x.expose(3);
        x.drive(0, 2);
        String before = Land.all(x);
        int changes = x.account(8);
        Check.refused("farm", x, 1, 0, 0, () -> x.farm(-5));
        Check.refused("lay", x, 5, 2, 0, () -> x.lay(2, 3));
        Check.refused("giveUp", x, 6, 0, 0, () -> x.giveUp(2, 3));
        Check.refused("root", x, 8, 0, 0, () -> x.root(0));
        Check.refused("charge", x, 9, 4, 0, () -> x.charge(2, 4, -8));
        Check.refused("drive", x, 10, 2, 0, () -> x.drive(0, 2));
        Check.due("refused leaves all", before, Land.all(x));
        Check.due("and keeps no change", changes, x.account(8));
    }
}
