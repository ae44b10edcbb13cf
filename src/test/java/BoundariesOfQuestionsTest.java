import java.util.NoSuchElementException;

/** The boundary cases that promises 9 to 27 and their terms name, each with a check of its own. */
public final class BoundariesOfQuestionsTest {
    private static final int LEAST = Integer.MIN_VALUE;
    private static final int MOST = Integer.MAX_VALUE;
    private static final Class<? extends RuntimeException> INDEX = IndexOutOfBoundsException.class;
    private static final Class<? extends RuntimeException> ELEMENT = NoSuchElementException.class;
    private static final Class<? extends RuntimeException> ARGUMENT = IllegalArgumentException.class;

    /** A question about one farm. */
    interface OfOne {
        void ask(DroverTracks x, int farm);
    }

    /** A question about two farms. */
    interface OfTwo {
        void ask(DroverTracks x, int one, int other);
    }

    public static void main(String[] args) {
        noSuchFarm();
        noSuchFarmForEither();
        farmsThatAreNoMore();
        unlikeTrees();
        farmOfWhat();
        farmOfAtTheEnds();
        farmOfAlone();
        steps();
        next();
        onWay();
        meet();
        sums();
        dearest();
        isJoined();
        isTrack();
        exposedPlaces();
        exposedAfterChanges();
        wouldChange();
        treesAndSize();
        farthest();
        longest();
        wouldSplit();
        drover();
        rankedPlaces();
        rankedOfSeveral();
        Check.end("BoundariesOfQuestionsTest");
    }

    // "There is no such farm", of one farm

    private static void noSuchFarm() {
        checkNoFarm("farmOf", (x, farm) -> x.farmOf(farm, 0));
        checkNoFarm("farmOf, no such number either", (x, farm) -> x.farmOf(farm, 7));
        checkNoFarm("exposed", (x, farm) -> x.exposed(farm, 0));
        checkNoFarm("exposed, no such place either", (x, farm) -> x.exposed(farm, -1));
        checkNoFarm("wouldChange", (x, farm) -> x.wouldChange(farm));
        checkNoFarm("size", (x, farm) -> x.size(farm));
        checkNoFarm("farthest", (x, farm) -> x.farthest(farm));
        checkNoFarm("longest", (x, farm) -> x.longest(farm));
        checkNoFarm("tree", (x, farm) -> x.tree(farm));
    }

    private static void checkNoFarm(String name, OfOne question) {
        checkNoFarmOf(name + ", without farms", new DroverTracks(), question, 0, 1, -1, 11, 12, LEAST, MOST);
        checkNoFarmOf(name + ", one farm", Land.alone(1), question, 1, -1, 11, 12, LEAST, MOST);
        checkNoFarmOf(name + ", twelve farms", Land.rowOf(12, 1), question, 12, 13, -1, LEAST, MOST);
    }

    private static void checkNoFarmOf(String name, DroverTracks x, OfOne question, int... farms) {
        String before = Land.whole(x);
        for (int farm : farms) {
            Check.throwing(name + ": " + farm, INDEX, () -> question.ask(x, farm));
        }
        Check.due(name + ": all is left", before, Land.whole(x));
        Check.throwing(name + ": nothing was refused", ELEMENT, () -> x.reason(0));
    }

    // "There is no such farm, for either"

    private static void noSuchFarmForEither() {
        checkNoFarmForEither("steps", (x, one, other) -> x.steps(one, other));
        checkNoFarmForEither("next", (x, one, other) -> x.next(one, other));
        checkNoFarmForEither("onWay", (x, one, other) -> x.onWay(one, other, 0));
        checkNoFarmForEither("onWay, no such place either", (x, one, other) -> x.onWay(one, other, -1));
        checkNoFarmForEither("meet", (x, one, other) -> x.meet(one, other));
        checkNoFarmForEither("sum", (x, one, other) -> x.sum(one, other));
        checkNoFarmForEither("sumAgain", (x, one, other) -> x.sumAgain(one, other));
        checkNoFarmForEither("dearest", (x, one, other) -> x.dearest(one, other));
        checkNoFarmForEither("isJoined", (x, one, other) -> x.isJoined(one, other));
        checkNoFarmForEither("isTrack", (x, one, other) -> x.isTrack(one, other));
        checkNoFarmForEither("wouldSplit", (x, one, other) -> x.wouldSplit(one, other));
        checkNoFarmForEither("way", (x, one, other) -> x.way(one, other));
    }

    private static void checkNoFarmForEither(String name, OfTwo question) {
        checkNoFarm(name + ", the one", (x, farm) -> question.ask(x, farm, 0));
        checkNoFarm(name + ", the other", (x, farm) -> question.ask(x, 0, farm));
        checkNoFarm(name + ", both", (x, farm) -> question.ask(x, farm, farm));
        checkNoFarm(name + ", a root's parent", (x, farm) -> question.ask(x, farm, -1));
    }

    /** A farm whose building is undone, or came after the snapshot, is no such farm any more. */
    private static void farmsThatAreNoMore() {
        DroverTracks x = Land.alone(2);
        x.save();
        x.farm(9);
        x.undo();
        Check.throwing("undone: farmOf", INDEX, () -> x.farmOf(2, 0));
        Check.throwing("undone: steps", INDEX, () -> x.steps(0, 2));
        Check.throwing("undone: ranked", ELEMENT, () -> x.ranked(2));
        Check.refused("undone: expose", x, 3, 2, 0, () -> x.expose(2));
        x.farm(9);
        x.lay(2, 0);
        x.expose(2);
        x.restore();
        Check.throwing("restored: farmOf", INDEX, () -> x.farmOf(2, 0));
        Check.throwing("restored: isTrack", INDEX, () -> x.isTrack(0, 2));
        Check.due("restored: none is preferred", -1, x.farmOf(0, 2));
        Check.due("restored: no child", 0, x.farmOf(0, 4));
        Check.due("a farm built instead", 2, x.farm(3));
        Check.due("is alone", 1, x.size(2));
        Check.due("prefers none", -1, x.farmOf(2, 2));
    }

    // "Both are in unlike trees"

    private static void unlikeTrees() {
        checkUnlike("steps", (x, one, other) -> x.steps(one, other));
        checkUnlike("next", (x, one, other) -> x.next(one, other));
        checkUnlike("onWay", (x, one, other) -> x.onWay(one, other, 0));
        checkUnlike("meet", (x, one, other) -> x.meet(one, other));
        checkUnlike("sum", (x, one, other) -> x.sum(one, other));
        checkUnlike("sumAgain", (x, one, other) -> x.sumAgain(one, other));
        checkUnlike("dearest", (x, one, other) -> x.dearest(one, other));
        checkUnlike("wouldSplit", (x, one, other) -> x.wouldSplit(one, other));
        checkUnlike("way", (x, one, other) -> x.way(one, other));
    }

    private static void checkUnlike(String name, OfTwo question) {
        DroverTracks two = Land.alone(2);
        Check.throwing(name + ": two farms alone", ELEMENT, () -> question.ask(two, 0, 1));
        DroverTracks x = Land.rowOf(12, 1);
        x.giveUp(10, 11);
        Check.throwing(name + ": the last given up", ELEMENT, () -> question.ask(x, 10, 11));
        Check.throwing(name + ": the last given up, turned", ELEMENT, () -> question.ask(x, 11, 0));
        x.giveUp(0, 1);
        Check.throwing(name + ": the root given up", ELEMENT, () -> question.ask(x, 0, 1));
        Check.throwing(name + ": both roots", ELEMENT, () -> question.ask(x, 0, 11));
        Check.throwing(name + ": nothing was refused", ELEMENT, () -> x.reason(0));
    }

    // Promise 9: farmOf

    private static void farmOfWhat() {
        DroverTracks x = Land.alone(1);
        int[] none = {-1, 7, 8, LEAST, MOST};
        for (int what : none) {
            Check.throwing("farmOf, what " + what, ARGUMENT, () -> x.farmOf(0, what));
        }
        Check.due("what 0, the first", 1, x.farmOf(0, 0));
        Check.due("what 6, the last", 0, x.farmOf(0, 6));
    }

    private static void farmOfAtTheEnds() {
        DroverTracks x = Land.rowOf(12, 200);
        Check.due("root: the greatest toll", 200, x.farmOf(0, 0));
        Check.due("root: no parent", -1, x.farmOf(0, 1));
        Check.due("root: prefers none at first", -1, x.farmOf(0, 2));
        Check.due("root: the least depth", 0, x.farmOf(0, 3));
        Check.due("root: all lie behind it", 12, x.farmOf(0, 5));
        Check.due("a child of the root: the root is counted", 1, x.farmOf(1, 3));
        Check.due("deepest: the parent", 10, x.farmOf(11, 1));
        Check.due("deepest: the greatest depth", 11, x.farmOf(11, 3));
        Check.due("deepest: no child", 0, x.farmOf(11, 4));
        Check.due("deepest: the farm itself lies behind it", 1, x.farmOf(11, 5));
        Check.due("deepest: the root", 0, x.farmOf(11, 6));
        x.expose(11);
        Check.due("deepest: the farm itself prefers none", -1, x.farmOf(11, 2));
        Check.due("the one above prefers it", 11, x.farmOf(10, 2));
        DroverTracks star = Land.alone(12);
        for (int farm = 1; farm < 12; farm++) {
            star.lay(farm, 0);
        }
        Check.due("the most children", 11, star.farmOf(0, 4));
        star.expose(11);
        Check.due("the last child is preferred", 11, star.farmOf(0, 2));
        star.root(11);
        Check.due("a child less for one that is the parent", 10, star.farmOf(0, 4));
    }

    private static void farmOfAlone() {
        DroverTracks x = Land.farms(0);
        int[] due = {0, -1, -1, 0, 0, 1, 0};
        for (int what = 0; what < due.length; what++) {
            Check.due("a farm alone: " + what, due[what], x.farmOf(0, what));
        }
    }

    // Promises 10 to 13: steps, next, onWay, meet. "A way from a farm to itself is this farm alone."

    private static void steps() {
        DroverTracks x = Land.rowOf(12, 1);
        Check.due("to itself", 0, x.steps(11, 11));
        Check.due("the least way", 1, x.steps(10, 11));
        Check.due("the longest way", 11, x.steps(0, 11));
        Check.due("the longest way, turned", 11, x.steps(11, 0));
    }

    private static void next() {
        DroverTracks x = Land.rowOf(12, 1);
        Check.throwing("to itself there is no next one", ELEMENT, () -> x.next(11, 11));
        Check.throwing("to itself, the root", ELEMENT, () -> x.next(0, 0));
        Check.due("the other one itself", 11, x.next(10, 11));
        Check.due("the parent", 10, x.next(11, 10));
        Check.due("the longest way", 1, x.next(0, 11));
        Check.due("the longest way, turned", 10, x.next(11, 0));
        DroverTracks y = Land.alone(1);
        Check.throwing("a farm alone", ELEMENT, () -> y.next(0, 0));
    }

    private static void onWay() {
        DroverTracks x = Land.rowOf(12, 1);
        Check.due("place 0, the one farm", 11, x.onWay(11, 0, 0));
        Check.due("the last place, the other", 0, x.onWay(11, 0, 11));
        int[] none = {-1, 12, LEAST, MOST};
        for (int place : none) {
            Check.throwing("the longest way, place " + place, ELEMENT, () -> x.onWay(11, 0, place));
        }
        Check.due("to itself, place 0", 5, x.onWay(5, 5, 0));
        Check.throwing("to itself, place 1", ELEMENT, () -> x.onWay(5, 5, 1));
        Check.throwing("to itself, place -1", ELEMENT, () -> x.onWay(5, 5, -1));
        Check.due("two farms, place 1", 6, x.onWay(5, 6, 1));
        Check.throwing("two farms, place 2", ELEMENT, () -> x.onWay(5, 6, 2));
    }

    private static void meet() {
        DroverTracks x = Land.rowOf(12, 1);
        Check.due("to itself", 11, x.meet(11, 11));
        Check.due("the one is the root", 0, x.meet(0, 11));
        Check.due("the other is the root", 0, x.meet(11, 0));
        Check.due("the parent", 10, x.meet(11, 10));
        x.root(6);
        Check.due("both ends: the new root", 6, x.meet(0, 11));
        Check.due("one side: the upper one", 5, x.meet(5, 0));
    }

    // Promises 14 and 15: sum and sumAgain

    private static void sums() {
        DroverTracks dear = Land.rowOf(12, 200);
        checkSums(dear, "the greatest sum", 0, 11, 2400);
        checkSums(dear, "to itself", 11, 11, 200);
        checkSums(dear, "the root to itself: nothing is behind it", 0, 0, 200);
        checkSums(dear, "beside the root", 1, 11, 2200);
        dear.root(6);
        checkSums(dear, "where both meet is counted once", 0, 11, 2400);
        checkSums(dear, "below the root", 7, 11, 1000);
        DroverTracks free = Land.rowOf(12, 0);
        checkSums(free, "the least sum", 0, 11, 0);
        checkSums(free, "the least sum, to itself", 5, 5, 0);
    }

    private static void checkSums(DroverTracks x, String what, int one, int other, int due) {
        Check.due("sum, " + what, due, x.sum(one, other));
        Check.due("sum, " + what + ", turned", due, x.sum(other, one));
        Check.due("sumAgain, " + what, due, x.sumAgain(one, other));
        Check.due("sumAgain, " + what + ", turned", due, x.sumAgain(other, one));
    }

    // Promise 16: dearest. "Of several the first one on the way from the one farm."

    private static void dearest() {
        DroverTracks free = Land.rowOf(12, 0);
        Check.due("all have a toll of 0: the first", 0, free.dearest(0, 11));
        Check.due("all have a toll of 0, turned", 11, free.dearest(11, 0));
        Check.due("to itself", 4, free.dearest(4, 4));
        DroverTracks x = Land.farms(1, 200, 0, 200, 199);
        for (int farm = 1; farm < 5; farm++) {
            x.lay(farm, farm - 1);
        }
        Check.due("of two the first", 1, x.dearest(0, 4));
        Check.due("of two the first, turned", 3, x.dearest(4, 0));
        Check.due("at the start", 1, x.dearest(1, 2));
        Check.due("at the end", 3, x.dearest(2, 3));
        Check.due("less by 1 is not it", 3, x.dearest(4, 2));
        DroverTracks row = Land.row(12);
        Check.due("the last of the longest way", 11, row.dearest(0, 11));
        Check.due("the last but one", 10, row.dearest(0, 10));
        Check.due("the first of the longest way", 11, row.dearest(11, 0));
    }

    // Promises 17 and 18: isJoined and isTrack

    private static void isJoined() {
        DroverTracks x = Land.rowOf(12, 1);
        Check.due("with itself", true, x.isJoined(11, 11));
        Check.due("both ends", true, x.isJoined(0, 11));
        x.giveUp(5, 6);
        Check.due("both ends, a track less", false, x.isJoined(0, 11));
        Check.due("both sides of it", false, x.isJoined(6, 5));
        Check.due("one side", true, x.isJoined(0, 5));
        Check.due("the other side", true, x.isJoined(11, 6));
        DroverTracks y = Land.alone(2);
        Check.due("a farm alone with itself", true, y.isJoined(0, 0));
        Check.due("two roots", false, y.isJoined(0, 1));
    }

    private static void isTrack() {
        DroverTracks x = Land.rowOf(12, 1);
        Check.due("to itself", false, x.isTrack(0, 0));
        Check.due("the first", true, x.isTrack(0, 1));
        Check.due("the last, turned", true, x.isTrack(11, 10));
        Check.due("two steps", false, x.isTrack(0, 2));
        Check.due("both ends", false, x.isTrack(11, 0));
        x.giveUp(11, 10);
        Check.due("given up", false, x.isTrack(11, 10));
        DroverTracks y = Land.alone(2);
        Check.due("two roots, neither has a parent", false, y.isTrack(0, 1));
    }

    // Promise 19: exposed. "From the root by what is preferred until a farm prefers none."

    private static void exposedPlaces() {
        DroverTracks x = Land.rowOf(12, 1);
        Check.due("at first the root alone", 0, x.exposed(11, 0));
        Check.throwing("at first no place 1", ELEMENT, () -> x.exposed(11, 1));
        x.expose(11);
        for (int place = 0; place < 12; place++) {
            Check.due("the longest exposed way, place " + place, place, x.exposed(0, place));
        }
        int[] none = {-1, 12, 13, LEAST, MOST};
        for (int place : none) {
            Check.throwing("the longest exposed way, place " + place, ELEMENT, () -> x.exposed(0, place));
        }
        DroverTracks y = Land.alone(1);
        Check.due("a farm alone", 0, y.exposed(0, 0));
        Check.throwing("a farm alone, place 1", ELEMENT, () -> y.exposed(0, 1));
        Check.throwing("a farm alone, place -1", ELEMENT, () -> y.exposed(0, -1));
    }

    private static void exposedAfterChanges() {
        DroverTracks x = Land.rowOf(12, 1);
        x.expose(11);
        x.giveUp(5, 6);
        Check.due("the upper way ends at the parent", 5, x.exposed(0, 5));
        Check.throwing("and goes on no more", ELEMENT, () -> x.exposed(0, 6));
        Check.due("the lower way starts at the child", 6, x.exposed(11, 0));
        Check.due("and ends where it did", 11, x.exposed(6, 5));
        x.lay(6, 5);
        Check.throwing("joined again, the way does not go on", ELEMENT, () -> x.exposed(0, 6));
        x.root(6);
        Check.due("rooted anew: the root", 6, x.exposed(0, 0));
        Check.throwing("rooted anew: no more", ELEMENT, () -> x.exposed(0, 1));
    }

    // Promise 20: wouldChange, which must be what expose returns then

    private static void wouldChange() {
        DroverTracks x = Land.rowOf(12, 1);
        Check.due("the root prefers none", 0, x.wouldChange(0));
        Check.due("the deepest farm", 11, x.wouldChange(11));
        Check.due("nothing has changed", -1, x.farmOf(0, 2));
        for (int farm = 11; farm >= 0; farm--) {
            int due = x.wouldChange(farm);
            Check.due("as expose returns: " + farm, due, x.expose(farm));
            Check.due("exposed already: " + farm, 0, x.wouldChange(farm));
        }
        Check.due("the farm itself alone", 1, x.wouldChange(1));
        DroverTracks y = Land.alone(1);
        Check.due("a farm alone", 0, y.wouldChange(0));
        Check.due("is no exposing", 0, y.account(5));
    }

    // Promises 21 and 22: trees and size

    private static void treesAndSize() {
        Check.due("the only farm", 1, Land.alone(1).trees());
        DroverTracks x = Land.alone(12);
        Check.due("the most trees", 12, x.trees());
        Check.due("the least tree", 1, x.size(11));
        for (int farm = 1; farm < 12; farm++) {
            x.lay(farm, farm - 1);
            Check.due("a tree less", 12 - farm, x.trees());
        }
        Check.due("the largest tree, from the root", 12, x.size(0));
        Check.due("the largest tree, from the end", 12, x.size(11));
        x.giveUp(0, 1);
        Check.due("a tree more", 2, x.trees());
        Check.due("one side", 1, x.size(0));
        Check.due("the other side", 11, x.size(11));
    }

    // Promise 23: farthest. "Of several the lowest."

    private static void farthest() {
        Check.due("the only farm: itself", 0, Land.alone(1).farthest(0));
        DroverTracks x = Land.alone(12);
        Check.due("a farm alone: itself", 11, x.farthest(11));
        for (int farm = 0; farm < 11; farm++) {
            x.lay(farm, 11);
        }
        Check.due("of eleven the lowest", 0, x.farthest(11));
        Check.due("of ten the lowest", 0, x.farthest(5));
        Check.due("not itself", 1, x.farthest(0));
        DroverTracks row = Land.rowOf(12, 1);
        Check.due("the root's other end", 11, row.farthest(0));
        Check.due("the other end's root", 0, row.farthest(11));
        Check.due("farther by 1 up", 0, row.farthest(6));
        Check.due("farther by 1 down", 11, row.farthest(5));
        row.giveUp(11, 10);
        Check.due("both ends equally: the lowest", 0, row.farthest(5));
        row.root(10);
        Check.due("the root does not matter", 0, row.farthest(5));
        Check.due("unlike trees do not count", 11, row.farthest(11));
    }

    // Promise 24: longest

    private static void longest() {
        Check.due("the only farm", 0, Land.alone(1).longest(0));
        DroverTracks x = Land.alone(12);
        Check.due("a farm alone", 0, x.longest(0));
        x.lay(0, 1);
        Check.due("two farms", 1, x.longest(0));
        Check.due("two farms, from the other", 1, x.longest(1));
        for (int farm = 2; farm < 12; farm++) {
            x.lay(farm, 1);
        }
        Check.due("around one farm", 2, x.longest(1));
        Check.due("around one farm, from a leaf", 2, x.longest(11));
        DroverTracks row = Land.rowOf(12, 1);
        Check.due("a row, from an end", 11, row.longest(0));
        Check.due("a row, from within", 11, row.longest(6));
        row.root(6);
        Check.due("the root does not matter", 11, row.longest(6));
        row.giveUp(0, 1);
        Check.due("a track less", 10, row.longest(6));
        Check.due("the farm left alone", 0, row.longest(0));
    }

    // Promise 25: wouldSplit

    private static void wouldSplit() {
        DroverTracks two = Land.rowOf(2, 1);
        Check.due("the only track", 1, two.wouldSplit(0, 1));
        DroverTracks x = Land.rowOf(12, 1);
        Check.due("the first track", 11, x.wouldSplit(0, 1));
        Check.due("the last track, turned", 11, x.wouldSplit(11, 10));
        Check.due("the track in the middle", 36, x.wouldSplit(5, 6));
        Check.throwing("no track, one farm", ELEMENT, () -> x.wouldSplit(0, 0));
        Check.throwing("no track, two steps", ELEMENT, () -> x.wouldSplit(0, 2));
        Check.throwing("no track, both ends", ELEMENT, () -> x.wouldSplit(0, 11));
        Check.due("nothing is given up", 11, x.account(1));
        x.giveUp(5, 6);
        Check.throwing("no track, given up", ELEMENT, () -> x.wouldSplit(5, 6));
        Check.due("in a smaller tree", 5, x.wouldSplit(4, 5));
    }

    // Promise 26: drover. "There are the drovers 0 to 2, each at a farm, at first none."

    private static void drover() {
        DroverTracks x = Land.rowOf(12, 1);
        int[] none = {-1, 3, 4, LEAST, MOST};
        for (int drover : none) {
            Check.throwing("no such drover: " + drover, INDEX, () -> x.drover(drover));
        }
        for (int drover = 0; drover <= 2; drover++) {
            Check.due("at first none: " + drover, -1, x.drover(drover));
        }
        x.drive(0, 0);
        x.drive(2, 11);
        Check.due("the first at the first", 0, x.drover(0));
        Check.due("the last at the last", 11, x.drover(2));
        Check.due("between them none", -1, x.drover(1));
        x.undo();
        Check.due("undone: none", -1, x.drover(2));
        Check.due("the other stays", 0, x.drover(0));
    }

    // Promise 27: ranked. "The most first, of several the one with the lesser depth, of these the lowest."

    private static void rankedPlaces() {
        DroverTracks x = new DroverTracks();
        int[] always = {-1, 12, LEAST, MOST};
        for (int place : always) {
            Check.throwing("without farms, place " + place, ELEMENT, () -> x.ranked(place));
        }
        Check.throwing("without farms, place 0", ELEMENT, () -> x.ranked(0));
        x.farm(1);
        Check.due("a farm alone", 0, x.ranked(0));
        Check.throwing("a farm alone, place 1", ELEMENT, () -> x.ranked(1));
        for (int farm = 1; farm < 12; farm++) {
            x.farm(1);
        }
        for (int place = 0; place < 12; place++) {
            Check.due("all alike: the lowest first", place, x.ranked(place));
        }
        for (int place : always) {
            Check.throwing("twelve farms, place " + place, ELEMENT, () -> x.ranked(place));
        }
    }

    private static void rankedOfSeveral() {
        DroverTracks row = Land.rowOf(12, 1);
        row.root(11);
        for (int place = 0; place < 12; place++) {
            Check.due("the most first, place " + place, 11 - place, row.ranked(place));
        }
        // The trees 3(2(1(0))) and 4(5): 4 and 1 have two farms behind each, 5 and 0 one, at unlike depths.
        DroverTracks x = Land.alone(6);
        x.lay(2, 3);
        x.lay(1, 2);
        x.lay(0, 1);
        x.lay(5, 4);
        checkRanks("of several the lesser depth", x, 3, 2, 4, 1, 5, 0);
        DroverTracks y = Land.alone(4);
        y.lay(0, 3);
        y.lay(1, 2);
        checkRanks("of these the lowest", y, 2, 3, 0, 1);
        DroverTracks deep = Land.rowOf(10, 1);
        deep.farm(1);
        deep.farm(1);
        checkRanks("one more behind, far deeper", deep, 0, 1, 2, 3, 4, 5, 6, 7, 8, 10, 11, 9);
        DroverTracks low = Land.alone(12);
        low.lay(0, 1);
        checkRanks("the lowest, but deeper by one", low, 1, 2, 3, 4, 5, 6, 7, 8, 9, 10, 11, 0);
    }

    private static void checkRanks(String what, DroverTracks x, int... due) {
        for (int place = 0; place < due.length; place++) {
            Check.due(what + ", place " + place, due[place], x.ranked(place));
        }
    }
}
