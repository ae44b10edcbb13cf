/** The boundary cases that promises 1 to 8 and their terms name, each with a check of its own. */
public final class BoundariesOfChangesTest {
    private static final int LEAST = Integer.MIN_VALUE;
    private static final int MOST = Integer.MAX_VALUE;

    public static void main(String[] args) {
        country();
        countryRefuses();
        calls();
        tolls();
        farms();
        layOfNoFarm();
        layNoRing();
        layJoins();
        layAndPreferences();
        giveUpRefused();
        giveUpAtTheEnds();
        giveUpAndPreferences();
        rootRefused();
        rootAtTheEnds();
        rootAndPreferences();
        exposeRefused();
        exposeAtTheEnds();
        chargeBy();
        chargeTolls();
        chargeOrder();
        chargeUnlikeTrees();
        driveRefused();
        driveFromNowhere();
        driveAlong();
        Check.end("BoundariesOfChangesTest");
    }

    // Promise 1: "Creates a country without farms."

    private static void country() {
        DroverTracks x = new DroverTracks();
        for (int what = 0; what <= 9; what++) {
            Check.due("without farms: account " + what, 0, x.account(what));
        }
        Check.due("without farms: trees", 0, x.trees());
        Check.due("without farms: no text had a fault", -1, x.faultPosition());
        Check.due("without farms: the line is empty", "", Land.written(x));
        Check.due("at first none: drover 0", -1, x.drover(0));
        Check.due("at first none: drover 2", -1, x.drover(2));
        Check.due("without farms: saved", 0, x.save());
        Check.due("without farms: restored", 0, x.restore());
    }

    private static void countryRefuses() {
        DroverTracks x = new DroverTracks();
        String before = Land.whole(x);
        Check.refused("without farms: lay", x, 3, 0, 0, () -> x.lay(0, 0));
        Check.refused("without farms: giveUp", x, 3, 0, 0, () -> x.giveUp(0, 0));
        Check.refused("without farms: root", x, 3, 0, 0, () -> x.root(0));
        Check.refused("without farms: expose", x, 3, 0, 0, () -> x.expose(0));
        Check.refused("without farms: charge", x, 3, 0, 0, () -> x.charge(0, 0, 0));
        Check.refused("without farms: drive", x, 3, 0, 0, () -> x.drive(0, 0));
        Check.refused("a drover at none is not at -1", x, 3, -1, 0, () -> x.drive(0, -1));
        Check.due("without farms: refused leaves all", before, Land.whole(x));
    }

    /** "An object is used for at most 512 calls": the last of them must answer as any other. */
    private static void calls() {
        DroverTracks x = Land.farms(200, 200);
        x.lay(1, 0);
        x.drive(0, 0);
        for (int call = 5; call <= 511; call++) {
            Check.due("call " + call + " of 512", 200, x.drive(0, call % 2));
        }
        Check.due("call 512", 507 * 200, x.account(7));
    }

    // Promise 2: farm. "At most 12 farms are built, numbered from 0, each with a toll from 0 to 200."

    private static void tolls() {
        DroverTracks x = new DroverTracks();
        int[] tooSmall = {-1, -2, -200, LEAST, LEAST + 1};
        for (int toll : tooSmall) {
            Check.refused("a toll too small: " + toll, x, 1, 0, 0, () -> x.farm(toll));
        }
        int[] tooLarge = {201, 202, 256, 65536, MOST, MOST - 1};
        for (int toll : tooLarge) {
            Check.refused("a toll too large: " + toll, x, 1, 0, 0, () -> x.farm(toll));
        }
        Check.due("refused: none is built", 0, x.account(0));
        Check.due("refused: none can be undone", 0, x.account(8));
        int[] within = {0, 1, 199, 200};
        for (int farm = 0; farm < within.length; farm++) {
            Check.due("numbered from 0", farm, x.farm(within[farm]));
            Check.due("a toll from 0 to 200", within[farm], x.farmOf(farm, 0));
            Check.due("built: the root of its own tree", farm, x.farmOf(farm, 6));
            Check.due("built: prefers none at first", -1, x.farmOf(farm, 2));
        }
    }

    private static void farms() {
        DroverTracks x = Land.alone(11);
        Check.due("the 12th farm", 11, x.farm(5));
        String before = Land.whole(x);
        Check.refused("more than 12 farms", x, 2, 0, 0, () -> x.farm(0));
        Check.refused("more than 12 farms, the largest toll", x, 2, 0, 0, () -> x.farm(200));
        Check.refused("1 ahead of 2, too small", x, 1, 0, 0, () -> x.farm(-1));
        Check.refused("1 ahead of 2, too large", x, 1, 0, 0, () -> x.farm(201));
        Check.due("the 13th is refused and leaves all", before, Land.whole(x));
        x.undo();
        Check.due("the 12th again", 11, x.farm(7));
        Check.due("with its new toll", 7, x.farmOf(11, 0));
        Check.refused("the 13th again", x, 2, 0, 0, () -> x.farm(7));
    }

    // Promise 3: lay

    private static void layOfNoFarm() {
        DroverTracks x = Land.alone(3);
        String before = Land.whole(x);
        int[] none = {-1, 3, 11, 12, LEAST, MOST};
        for (int farm : none) {
            Check.refused("no such farm, the one: " + farm, x, 3, farm, 0, () -> x.lay(farm, 0));
            Check.refused("no such farm, the other: " + farm, x, 3, farm, 0, () -> x.lay(0, farm));
            Check.refused("the one, then the other: " + farm, x, 3, farm, 0, () -> x.lay(farm, -7));
            Check.refused("3 ahead of 4: " + farm, x, 3, farm, 0, () -> x.lay(farm, farm));
        }
        Check.refused("both farms are one, the first", x, 4, 0, 0, () -> x.lay(0, 0));
        Check.refused("both farms are one, the last", x, 4, 2, 0, () -> x.lay(2, 2));
        Check.due("refused lay leaves all", before, Land.whole(x));
    }

    /** "Tracks never make a ring": two farms of one tree are refused with the tracks between them. */
    private static void layNoRing() {
        DroverTracks x = Land.rowOf(12, 1);
        String before = Land.whole(x);
        Check.refused("a second track", x, 5, 1, 0, () -> x.lay(3, 4));
        Check.refused("a second track, turned", x, 5, 1, 0, () -> x.lay(4, 3));
        Check.refused("the least ring", x, 5, 2, 0, () -> x.lay(3, 5));
        Check.refused("the greatest ring", x, 5, 11, 0, () -> x.lay(0, 11));
        Check.refused("the greatest ring, turned", x, 5, 11, 0, () -> x.lay(11, 0));
        Check.refused("4 ahead of 5", x, 4, 6, 0, () -> x.lay(6, 6));
        Check.due("no ring is made", before, Land.whole(x));
        x.giveUp(5, 6);
        Check.due("no ring any more, the ends may be joined", 12, x.lay(11, 0));
        Check.due("over the new track", 11, x.steps(5, 6));
    }

    private static void layJoins() {
        DroverTracks x = Land.alone(12);
        Check.due("the least tree", 2, x.lay(0, 1));
        Check.due("the other one is the parent", 1, x.farmOf(0, 1));
        Check.due("its root stays", 1, x.farmOf(0, 6));
        for (int farm = 1; farm < 11; farm++) {
            Check.due("how many farms it has then", farm + 2, x.lay(farm, farm + 1));
        }
        Check.due("the greatest depth", 11, x.farmOf(0, 3));
        DroverTracks y = Land.rowOf(11, 1);
        y.farm(1);
        Check.due("rooted anew at the far end", 12, y.lay(10, 11));
        Check.due("all parents turned", 11, y.farmOf(0, 3));
        Check.due("the other stays the root", 11, y.farmOf(0, 6));
        DroverTracks z = Land.rowOf(11, 1);
        z.farm(1);
        Check.due("a farm alone joins the far end", 12, z.lay(11, 10));
        Check.due("whose root stays", 0, z.farmOf(11, 6));
        Check.due("the root of the one alone is gone", 1, z.trees());
    }

    /** "When a track is laid, nobody prefers anything else by that, but for rooting anew." */
    private static void layAndPreferences() {
        DroverTracks x = Land.rowOf(4, 1);
        x.farm(1);
        x.expose(3);
        x.lay(0, 4);
        Check.due("a root already is not rooted anew: prefers on", "4(0(!1(!2(!3))))", Land.tree(x, 4));
        Check.due("the other prefers none by that", -1, x.farmOf(4, 2));
        DroverTracks y = Land.rowOf(4, 1);
        y.farm(1);
        y.expose(3);
        y.lay(1, 4);
        Check.due("rooted anew: the way turned prefers none", "4(1(0 2(!3)))", Land.tree(y, 4));
        Check.due("rooting anew is no exposing", 1, y.account(5));
        Check.due("and counts no farm", 3, y.account(4));
        DroverTracks z = Land.rowOf(3, 1);
        z.farm(1);
        z.expose(2);
        z.lay(3, 2);
        Check.due("a track below the end of the exposed way", "0(!1(!2(3)))", Land.tree(z, 0));
    }

    // Promise 4: giveUp

    private static void giveUpRefused() {
        DroverTracks x = Land.rowOf(3, 1);
        x.farm(1);
        String before = Land.whole(x);
        int[] none = {-1, 4, 12, LEAST, MOST};
        for (int farm : none) {
            Check.refused("no such farm, the one: " + farm, x, 3, farm, 0, () -> x.giveUp(farm, 0));
            Check.refused("no such farm, the other: " + farm, x, 3, farm, 0, () -> x.giveUp(0, farm));
            Check.refused("the one, then the other: " + farm, x, 3, farm, 0, () -> x.giveUp(farm, -7));
        }
        Check.refused("a root has no track to -1", x, 3, -1, 0, () -> x.giveUp(3, -1));
        Check.refused("no track, one farm", x, 6, 0, 0, () -> x.giveUp(1, 1));
        Check.refused("no track, one tree", x, 6, 0, 0, () -> x.giveUp(0, 2));
        Check.refused("no track, unlike trees", x, 6, 0, 0, () -> x.giveUp(2, 3));
        Check.due("refused giveUp leaves all", before, Land.whole(x));
    }

    private static void giveUpAtTheEnds() {
        DroverTracks x = Land.rowOf(12, 1);
        Check.due("the least lower tree", 1, x.giveUp(10, 11));
        Check.due("has the child as its root", 11, x.farmOf(11, 6));
        Check.refused("given up already", x, 6, 0, 0, () -> x.giveUp(10, 11));
        Check.due("the greatest lower tree", 10, x.giveUp(0, 1));
        Check.due("the root is left alone", 1, x.size(0));
        Check.due("whichever is told first", 9, x.giveUp(2, 1));
        Check.due("four trees", 4, x.trees());
        DroverTracks y = Land.rowOf(2, 1);
        Check.due("the only track", 1, y.giveUp(1, 0));
        Check.due("leaves two trees", 2, y.trees());
        Check.due("and no track", 0, y.account(1));
        Check.due("which can be laid the other way", 2, y.lay(0, 1));
        Check.due("with the other root", 1, y.farmOf(0, 6));
        Check.due("the lower tree is that of the child", 1, y.giveUp(0, 1));
    }

    /** "When a track is given up, the parent prefers none, if it preferred the child." */
    private static void giveUpAndPreferences() {
        DroverTracks x = Land.rowOf(4, 1);
        x.expose(3);
        x.giveUp(2, 1);
        Check.due("the parent preferred the child", "0(!1)", Land.tree(x, 0));
        Check.due("the child prefers on", "2(!3)", Land.tree(x, 2));
        Check.due("giving up is no exposing", 1, x.account(5));
        Check.due("and counts no farm", 3, x.account(4));
        DroverTracks y = Land.tree();
        y.expose(4);
        y.giveUp(0, 1);
        Check.due("the parent prefers another child", "0(!4)", Land.tree(y, 0));
        DroverTracks z = Land.tree();
        z.expose(0);
        z.giveUp(0, 1);
        Check.due("the parent prefers none", "0(4)", Land.tree(z, 0));
    }

    // Promise 5: root

    private static void rootRefused() {
        DroverTracks x = Land.rowOf(3, 1);
        x.farm(1);
        String before = Land.whole(x);
        int[] none = {-1, 4, 12, LEAST, MOST};
        for (int farm : none) {
            Check.refused("no such farm: " + farm, x, 3, farm, 0, () -> x.root(farm));
        }
        Check.refused("the root already", x, 8, 0, 0, () -> x.root(0));
        Check.refused("alone, the root already", x, 8, 3, 0, () -> x.root(3));
        Check.due("refused root leaves all", before, Land.whole(x));
        Check.due("the least way", 0, x.root(1));
        Check.refused("just rooted", x, 8, 1, 0, () -> x.root(1));
        Check.due("the root before may be it again", 1, x.root(0));
    }

    private static void rootAtTheEnds() {
        DroverTracks x = Land.rowOf(12, 1);
        Check.due("the longest way: the root before", 0, x.root(11));
        for (int farm = 0; farm < 12; farm++) {
            Check.due("turned: depth of " + farm, 11 - farm, x.farmOf(farm, 3));
            Check.due("turned: parent of " + farm, farm == 11 ? -1 : farm + 1, x.farmOf(farm, 1));
        }
        Check.due("one tree", 1, x.trees());
        Check.due("the root before is the other end", 11, x.root(0));
        Check.due("back: depth of 11", 11, x.farmOf(11, 3));
    }

    /** "All farms of the way that is turned prefer none, both ends included." */
    private static void rootAndPreferences() {
        DroverTracks x = Land.rowOf(5, 1);
        x.expose(4);
        x.root(2);
        Check.due("the upper end prefers none", -1, x.farmOf(0, 2));
        Check.due("between the ends none", -1, x.farmOf(1, 2));
        Check.due("the lower end prefers none", -1, x.farmOf(2, 2));
        Check.due("below the way it stays", 4, x.farmOf(3, 2));
        Check.due("to root anew counts no exposing", 1, x.account(5));
        Check.due("to root anew counts no farm", 4, x.account(4));
        DroverTracks y = Land.tree();
        y.expose(4);
        y.root(1);
        Check.due("an end that preferred a farm beside the way", "1(0(4) 2 3)", Land.tree(y, 1));
    }

    // Promise 6: expose

    private static void exposeRefused() {
        DroverTracks x = Land.rowOf(3, 1);
        String before = Land.whole(x);
        int[] none = {-1, 3, 12, LEAST, MOST};
        for (int farm : none) {
            Check.refused("no such farm: " + farm, x, 3, farm, 0, () -> x.expose(farm));
        }
        Check.due("refused expose leaves all", before, Land.whole(x));
    }

    private static void exposeAtTheEnds() {
        DroverTracks x = Land.rowOf(12, 1);
        Check.due("the root, which prefers none", 0, x.expose(0));
        Check.due("is an exposing still", 1, x.account(5));
        Check.due("the deepest farm", 11, x.expose(11));
        Check.due("the farm itself prefers none", -1, x.farmOf(11, 2));
        Check.due("exposed already", 0, x.expose(11));
        Check.due("the one above", 1, x.expose(10));
        Check.due("and down again", 1, x.expose(11));
        Check.due("the root: it alone prefers something else", 1, x.expose(0));
        Check.due("what is not on the way stays", 2, x.farmOf(1, 2));
        Check.due("so one farm is enough again", 1, x.expose(11));
        Check.due("all farms that preferred something else", 15, x.account(4));
        DroverTracks y = Land.alone(1);
        Check.due("a farm alone", 0, y.expose(0));
        Check.due("can be undone", 2, y.account(8));
    }

    // Promise 7: charge. "By a number from -50 to 50; not allowed if any would be below 0 or above 200."

    private static void chargeBy() {
        DroverTracks x = Land.farms(100, 100);
        x.lay(1, 0);
        String before = Land.whole(x);
        int[] outOfRange = {-51, 51, -100, 100, LEAST, LEAST + 1, MOST, MOST - 1};
        for (int by : outOfRange) {
            Check.refused("out of range: by " + by, x, 1, 0, 0, () -> x.charge(0, 1, by));
        }
        Check.due("refused charge leaves all", before, Land.whole(x));
        Check.due("by 50", 300, x.charge(0, 1, 50));
        Check.due("by -50", 200, x.charge(0, 1, -50));
        Check.due("by 49", 298, x.charge(0, 1, 49));
        Check.due("by -49", 200, x.charge(0, 1, -49));
        Check.due("more by 0", 200, x.charge(0, 1, 0));
        Check.due("more by 0 can be undone", 8, x.account(8));
    }

    private static void chargeTolls() {
        DroverTracks x = Land.farms(50, 49, 150, 151, 0, 200);
        Check.due("just 0", 0, x.charge(0, 0, -50));
        Check.refused("below 0 by 1", x, 9, 1, 0, () -> x.charge(1, 1, -50));
        Check.due("just 200", 200, x.charge(2, 2, 50));
        Check.refused("above 200 by 1", x, 9, 3, 0, () -> x.charge(3, 3, 50));
        Check.refused("0 less 1", x, 9, 4, 0, () -> x.charge(4, 4, -1));
        Check.refused("200 more 1", x, 9, 5, 0, () -> x.charge(5, 5, 1));
        Check.due("0 more by 0", 0, x.charge(4, 4, 0));
        Check.due("200 more by 0", 200, x.charge(5, 5, 0));
        Check.due("refused: 49 stays", 49, x.farmOf(1, 0));
        Check.due("refused: 151 stays", 151, x.farmOf(3, 0));
        DroverTracks y = Land.rowOf(12, 150);
        Check.due("the longest way, the greatest tolls", 2400, y.charge(0, 11, 50));
        Check.refused("the first of all", y, 9, 11, 0, () -> y.charge(11, 0, 1));
    }

    /** "The first such farm on the way", and none is charged if one is not allowed. */
    private static void chargeOrder() {
        DroverTracks x = Land.farms(10, 5, 10, 5, 10);
        for (int farm = 1; farm < 5; farm++) {
            x.lay(farm, farm - 1);
        }
        String before = Land.whole(x);
        Check.refused("the first of two", x, 9, 1, 0, () -> x.charge(0, 4, -6));
        Check.refused("the first from the other end", x, 9, 3, 0, () -> x.charge(4, 0, -6));
        Check.refused("only the last", x, 9, 1, 0, () -> x.charge(2, 1, -6));
        Check.refused("only the first", x, 9, 3, 0, () -> x.charge(3, 4, -6));
        Check.refused("all", x, 9, 4, 0, () -> x.charge(4, 0, -11));
        Check.due("none is charged", before, Land.whole(x));
        Check.due("beside the way it does not matter", 6, x.charge(2, 2, -4));
    }

    private static void chargeUnlikeTrees() {
        DroverTracks x = Land.rowOf(11, 0);
        x.farm(200);
        String before = Land.whole(x);
        int[] none = {-1, 12, LEAST, MOST};
        for (int farm : none) {
            Check.refused("no such farm, the one: " + farm, x, 3, farm, 0, () -> x.charge(farm, 0, 0));
            Check.refused("no such farm, the other: " + farm, x, 3, farm, 0, () -> x.charge(0, farm, 0));
            Check.refused("the one, then the other: " + farm, x, 3, farm, 0, () -> x.charge(farm, -7, 0));
            Check.refused("3 ahead of 1: " + farm, x, 3, farm, 0, () -> x.charge(0, farm, 51));
        }
        Check.refused("1 ahead of 7", x, 1, 0, 0, () -> x.charge(0, 11, 51));
        Check.refused("1 ahead of 9", x, 1, 0, 0, () -> x.charge(0, 0, -51));
        Check.refused("7 ahead of 9: the tree of the first one", x, 7, 11, 0, () -> x.charge(0, 11, -1));
        Check.refused("7: the first one is alone", x, 7, 1, 0, () -> x.charge(11, 0, 1));
        Check.due("refused charge leaves all", before, Land.whole(x));
    }

    // Promise 8: drive. "There are the drovers 0 to 2, each at a farm, at first none."

    private static void driveRefused() {
        DroverTracks x = Land.rowOf(3, 1);
        x.farm(1);
        x.drive(0, 2);
        x.drive(1, 3);
        String before = Land.whole(x);
        int[] noDrover = {-1, 3, LEAST, MOST};
        for (int drover : noDrover) {
            Check.refused("no drover: " + drover, x, 1, 0, 0, () -> x.drive(drover, 0));
            Check.refused("1 ahead of 3: " + drover, x, 1, 0, 0, () -> x.drive(drover, 9));
        }
        int[] none = {-1, 4, 12, LEAST, MOST};
        for (int farm : none) {
            Check.refused("no such farm: " + farm, x, 3, farm, 0, () -> x.drive(0, farm));
            Check.refused("no such farm, from nowhere: " + farm, x, 3, farm, 0, () -> x.drive(2, farm));
        }
        Check.refused("there already", x, 10, 2, 0, () -> x.drive(0, 2));
        Check.refused("there already, alone", x, 10, 3, 0, () -> x.drive(1, 3));
        Check.refused("7: the tree at which the drover is", x, 7, 3, 0, () -> x.drive(0, 3));
        Check.refused("7: the drover is at a farm alone", x, 7, 1, 0, () -> x.drive(1, 0));
        Check.due("refused drive leaves all", before, Land.whole(x));
    }

    /** "A drover who comes from nowhere exposes nothing, and does not drive." */
    private static void driveFromNowhere() {
        DroverTracks x = Land.rowOf(3, 200);
        x.expose(2);
        Check.due("pays nothing", 0, x.drive(2, 0));
        Check.due("exposes nothing", "0(!1(!2))", Land.tree(x, 0));
        Check.due("is no drive", 0, x.account(6));
        Check.due("is no exposing", 1, x.account(5));
        Check.due("nothing is paid", 0, x.account(7));
        x.undo();
        Check.due("undone: nowhere again", -1, x.drover(2));
        Check.due("any farm", 0, x.drive(2, 2));
        Check.due("another drover at the same farm", 0, x.drive(0, 2));
    }

    private static void driveAlong() {
        DroverTracks x = Land.rowOf(12, 200);
        x.drive(0, 0);
        Check.due("the longest way, the greatest tolls", 2200, x.drive(0, 11));
        Check.due("the farm is exposed", 11, x.exposed(0, 11));
        Check.due("to the next farm", 200, x.drive(0, 10));
        Check.due("and back to the root", 2000, x.drive(0, 0));
        Check.due("the root is exposed", -1, x.farmOf(0, 2));
        Check.due("three drives", 3, x.account(6));
        Check.due("three exposings", 3, x.account(5));
        Check.due("13 farms preferred something else", 13, x.account(4));
        Check.due("all that was paid", 4400, x.account(7));
        DroverTracks y = Land.rowOf(2, 0);
        y.drive(1, 0);
        Check.due("a toll of 0", 0, y.drive(1, 1));
        Check.due("is a drive still", 1, y.account(6));
        y.charge(1, 1, 9);
        Check.due("the first farm is not paid", 0, y.drive(1, 0));
        Check.due("the last one is", 9, y.drive(1, 1));
        y.giveUp(0, 1);
        Check.refused("no way is left", y, 7, 1, 0, () -> y.drive(1, 0));
        y.lay(0, 1);
        Check.due("a way is there again", 0, y.drive(1, 0));
    }
}
