import java.util.NoSuchElementException;

/** Promises 9 to 27: questions about farms, ways, trees and drovers. */
public final class QuestionsTest {
    /** A question about two farms. */
    interface OfTwo {
        void ask(DroverTracks x, int one, int other);
    }

    /** A question about one farm. */
    interface OfOne {
        void ask(DroverTracks x, int farm);
    }

    public static void main(String[] args) {
        promise9FarmOf();
        promise10Steps();
        promise11Next();
        promise12OnWay();
        promise13Meet();
        promises14And15Sums();
        promise16Dearest();
        promise17IsJoined();
        promise18IsTrack();
        promise19Exposed();
        promise20WouldChange();
        promise21Trees();
        promise22Size();
        promise23Farthest();
        promise24Longest();
        promise25WouldSplit();
        promise26Drover();
        promise27Ranked();
        questionsOfNoFarm();
        questionsLeaveAll();
        Check.end("QuestionsTest");
    }

    private static void checkFarm(DroverTracks x, int farm, int... due) {
        for (int what = 0; what < due.length; what++) {
            Check.due("farmOf(" + farm + ", " + what + ")", due[what], x.farmOf(farm, what));
        }
    }

    private static void promise9FarmOf() {
        DroverTracks x = Land.tree();
        x.expose(3);
        checkFarm(x, 0, 10, -1, 1, 0, 2, 5, 0);
        checkFarm(x, 1, 20, 0, 3, 1, 2, 3, 0);
        checkFarm(x, 2, 30, 1, -1, 2, 0, 1, 0);
        checkFarm(x, 3, 5, 1, -1, 2, 0, 1, 0);
        checkFarm(x, 4, 7, 0, -1, 1, 0, 1, 0);
        checkFarm(x, 5, 50, -1, -1, 0, 0, 1, 5);
        DroverTracks row = Land.row(12);
        checkFarm(row, 11, 12, 10, -1, 11, 0, 1, 0);
        checkFarm(row, 0, 1, -1, -1, 0, 1, 12, 0);
        row.root(11);
        checkFarm(row, 0, 1, 1, -1, 11, 0, 1, 11);
        Check.throwing("what 7", IllegalArgumentException.class, () -> x.farmOf(0, 7));
        Check.throwing("what -1", IllegalArgumentException.class, () -> x.farmOf(5, -1));
        Check.throwing("no farm, what 0", IndexOutOfBoundsException.class, () -> x.farmOf(6, 0));
        Check.throwing("no farm first", IndexOutOfBoundsException.class, () -> x.farmOf(-1, 7));
    }

    private static void promise10Steps() {
        DroverTracks x = Land.tree();
        Check.due("over the root", 3, x.steps(2, 4));
        Check.due("back", 3, x.steps(4, 2));
        Check.due("beside", 2, x.steps(2, 3));
        Check.due("down", 2, x.steps(0, 3));
        Check.due("itself", 0, x.steps(5, 5));
        Check.due("the longest", 11, Land.row(12).steps(11, 0));
        checkOfTwo("steps", (y, one, other) -> y.steps(one, other));
    }

    private static void promise11Next() {
        DroverTracks x = Land.tree();
        Check.due("up", 1, x.next(2, 4));
        Check.due("down", 1, x.next(0, 3));
        Check.due("over", 0, x.next(4, 3));
        Check.due("a neighbour", 4, x.next(0, 4));
        Check.throwing("one farm", NoSuchElementException.class, () -> x.next(2, 2));
        checkOfTwo("next", (y, one, other) -> y.next(one, other));
    }

    private static void promise12OnWay() {
        DroverTracks x = Land.tree();
        int[] due = {2, 1, 0, 4};
        for (int place = 0; place < due.length; place++) {
            Check.due("place " + place, due[place], x.onWay(2, 4, place));
            Check.due("back " + place, due[due.length - 1 - place], x.onWay(4, 2, place));
        }
        Check.due("itself", 5, x.onWay(5, 5, 0));
        Check.throwing("behind the end", NoSuchElementException.class, () -> x.onWay(2, 4, 4));
        Check.throwing("ahead", NoSuchElementException.class, () -> x.onWay(2, 4, -1));
        Check.throwing("most", NoSuchElementException.class, () -> x.onWay(2, 4, Integer.MAX_VALUE));
        Check.throwing("itself, 1", NoSuchElementException.class, () -> x.onWay(5, 5, 1));
        x.steps(2, 4);
        Check.throwing("a shorter way", NoSuchElementException.class, () -> x.onWay(0, 1, 2));
        checkOfTwo("onWay", (y, one, other) -> y.onWay(one, other, 0));
    }

    private static void promise13Meet() {
        DroverTracks x = Land.tree();
        Check.due("beside", 1, x.meet(2, 3));
        Check.due("the root", 0, x.meet(2, 4));
        Check.due("one over the other", 1, x.meet(1, 3));
        Check.due("the other over one", 1, x.meet(3, 1));
        Check.due("itself", 4, x.meet(4, 4));
        x.root(2);
        Check.due("rooted anew", 1, x.meet(3, 4));
        checkOfTwo("meet", (y, one, other) -> y.meet(one, other));
    }

    private static void promises14And15Sums() {
        DroverTracks x = Land.tree();
        checkSums(x, 2, 4, 67);
        checkSums(x, 4, 2, 67);
        checkSums(x, 2, 3, 55);
        checkSums(x, 1, 3, 25);
        checkSums(x, 3, 1, 25);
        checkSums(x, 0, 0, 10);
        checkSums(x, 5, 5, 50);
        checkSums(Land.row(12), 0, 11, 78);
        x.root(3);
        checkSums(x, 2, 4, 67);
        DroverTracks dear = Land.farms(200, 200, 200);
        dear.lay(1, 0);
        dear.lay(2, 1);
        checkSums(dear, 2, 0, 600);
        checkOfTwo("sum", (y, one, other) -> y.sum(one, other));
        checkOfTwo("sumAgain", (y, one, other) -> y.sumAgain(one, other));
    }

    private static void checkSums(DroverTracks x, int one, int other, int due) {
        Check.due("sum(" + one + ", " + other + ")", due, x.sum(one, other));
        Check.due("sumAgain(" + one + ", " + other + ")", due, x.sumAgain(one, other));
    }

    private static void promise16Dearest() {
        DroverTracks x = Land.tree();
        Check.due("in the middle", 1, x.dearest(3, 4));
        Check.due("at the start", 2, x.dearest(2, 4));
        Check.due("at the end", 2, x.dearest(4, 2));
        Check.due("itself", 5, x.dearest(5, 5));
        x.charge(0, 0, 10);
        Check.due("the first of two", 1, x.dearest(3, 4));
        Check.due("the first from the other end", 0, x.dearest(4, 3));
        DroverTracks free = Land.farms(0, 0);
        free.lay(0, 1);
        Check.due("tolls of 0", 1, free.dearest(1, 0));
        checkOfTwo("dearest", (y, one, other) -> y.dearest(one, other));
    }

    private static void promise17IsJoined() {
        DroverTracks x = Land.tree();
        Check.due("far", true, x.isJoined(3, 4));
        Check.due("itself", true, x.isJoined(5, 5));
        Check.due("unlike trees", false, x.isJoined(5, 0));
        Check.due("unlike trees, turned", false, x.isJoined(2, 5));
        x.giveUp(0, 1);
        Check.due("parted", false, x.isJoined(3, 4));
        Check.due("still joined", true, x.isJoined(3, 2));
    }

    private static void promise18IsTrack() {
        DroverTracks x = Land.tree();
        Check.due("up", true, x.isTrack(1, 0));
        Check.due("down", true, x.isTrack(0, 1));
        Check.due("itself", false, x.isTrack(0, 0));
        Check.due("two steps", false, x.isTrack(0, 2));
        Check.due("beside", false, x.isTrack(2, 3));
        Check.due("unlike trees", false, x.isTrack(0, 5));
        x.root(2);
        Check.due("rooted anew", true, x.isTrack(1, 0));
        x.giveUp(0, 1);
        Check.due("given up", false, x.isTrack(1, 0));
    }

    private static void promise19Exposed() {
        DroverTracks x = Land.tree();
        Check.due("the root at first", 0, x.exposed(3, 0));
        Check.throwing("no more", NoSuchElementException.class, () -> x.exposed(3, 1));
        x.expose(2);
        Check.due("0", 0, x.exposed(4, 0));
        Check.due("1", 1, x.exposed(4, 1));
        Check.due("2", 2, x.exposed(4, 2));
        Check.throwing("3", NoSuchElementException.class, () -> x.exposed(4, 3));
        Check.throwing("-1", NoSuchElementException.class, () -> x.exposed(4, -1));
        Check.throwing("most", NoSuchElementException.class, () -> x.exposed(4, Integer.MAX_VALUE));
        Check.throwing("least", NoSuchElementException.class, () -> x.exposed(4, Integer.MIN_VALUE));
        Check.due("another tree", 5, x.exposed(5, 0));
        x.expose(4);
        Check.due("the other child", 4, x.exposed(0, 1));
        Check.throwing("ends there", NoSuchElementException.class, () -> x.exposed(0, 2));
        DroverTracks row = Land.row(12);
        row.expose(11);
        Check.due("twelve farms", 11, row.exposed(5, 11));
        Check.throwing("a place for each", NoSuchElementException.class, () -> row.exposed(5, 12));
        Check.throwing("no farm first", IndexOutOfBoundsException.class, () -> row.exposed(12, 12));
    }

    private static void promise20WouldChange() {
        DroverTracks x = Land.tree();
        Check.due("two", 2, x.wouldChange(2));
        Check.due("asking changes nothing", 2, x.wouldChange(2));
        Check.due("the root that prefers none", 0, x.wouldChange(0));
        x.expose(2);
        Check.due("the same", 0, x.wouldChange(2));
        Check.due("beside", 1, x.wouldChange(3));
        Check.due("above", 1, x.wouldChange(1));
        Check.due("the root", 1, x.wouldChange(0));
        Check.due("the other branch", 1, x.wouldChange(4));
        Check.due("alone", 0, x.wouldChange(5));
        Check.due("nothing is counted", 1, x.account(5));
    }

    private static void promise21Trees() {
        DroverTracks x = Land.tree();
        Check.due("two", 2, x.trees());
        x.giveUp(1, 3);
        Check.due("three", 3, x.trees());
        x.lay(3, 5);
        x.lay(5, 4);
        Check.due("one", 1, x.trees());
        x.root(5);
        Check.due("rooted anew", 1, x.trees());
    }

    private static void promise22Size() {
        DroverTracks x = Land.tree();
        Check.due("from a leaf", 5, x.size(3));
        Check.due("from the root", 5, x.size(0));
        Check.due("alone", 1, x.size(5));
        x.giveUp(0, 1);
        Check.due("lower", 3, x.size(2));
        Check.due("upper", 2, x.size(4));
        Check.due("twelve", 12, Land.row(12).size(6));
    }

    private static void promise23Farthest() {
        DroverTracks x = Land.tree();
        Check.due("the lowest of two", 2, x.farthest(4));
        Check.due("from the root", 2, x.farthest(0));
        Check.due("from a leaf", 4, x.farthest(3));
        Check.due("from the inner farm", 4, x.farthest(1));
        Check.due("alone", 5, x.farthest(5));
        DroverTracks row = Land.row(12);
        Check.due("one end", 0, row.farthest(11));
        Check.due("other end", 11, row.farthest(5));
        DroverTracks even = Land.row(3);
        Check.due("both ends", 0, even.farthest(1));
    }

    private static void promise24Longest() {
        DroverTracks x = Land.tree();
        for (int farm = 0; farm < 5; farm++) {
            Check.due("from " + farm, 3, x.longest(farm));
        }
        Check.due("alone", 0, x.longest(5));
        Check.due("a row", 11, Land.row(12).longest(6));
        DroverTracks star = Land.farms(1, 1, 1, 1, 1, 1, 1);
        star.lay(1, 0);
        star.lay(2, 1);
        star.lay(3, 2);
        star.lay(4, 1);
        star.lay(5, 4);
        star.lay(6, 5);
        Check.due("not over the root", 5, star.longest(0));
    }

    private static void promise25WouldSplit() {
        DroverTracks x = Land.tree();
        Check.due("3 and 2", 6, x.wouldSplit(0, 1));
        Check.due("the same", 6, x.wouldSplit(1, 0));
        Check.due("1 and 4", 4, x.wouldSplit(1, 3));
        Check.due("nothing is given up", 2, x.trees());
        x.root(2);
        Check.due("rooted anew", 6, x.wouldSplit(0, 1));
        Check.due("a row", 36, Land.row(12).wouldSplit(5, 6));
        Check.throwing("itself", NoSuchElementException.class, () -> x.wouldSplit(1, 1));
        Check.throwing("two steps", NoSuchElementException.class, () -> x.wouldSplit(0, 2));
        checkOfTwo("wouldSplit", (y, one, other) -> y.wouldSplit(one, other));
    }

    private static void promise26Drover() {
        DroverTracks x = Land.tree();
        Check.due("nowhere", -1, x.drover(2));
        x.drive(2, 5);
        x.drive(0, 1);
        Check.due("there", 5, x.drover(2));
        x.drive(0, 4);
        Check.due("driven", 4, x.drover(0));
        Check.due("still nowhere", -1, x.drover(1));
        Check.throwing("3", IndexOutOfBoundsException.class, () -> x.drover(3));
        Check.throwing("-1", IndexOutOfBoundsException.class, () -> x.drover(-1));
    }

    private static void promise27Ranked() {
        DroverTracks x = Land.tree();
        // Behind: 0 has 5, 1 has 3; then one each, of which 5 has the depth 0, 4 the depth 1, 2 and 3 the depth 2.
        checkRanks(x, 0, 1, 5, 4, 2, 3);
        x.root(3);
        checkRanks(x, 3, 1, 0, 5, 2, 4);
        checkRanks(Land.row(12), 0, 1, 2, 3, 4, 5, 6, 7, 8, 9, 10, 11);
        checkRanks(Land.farms(3, 2, 1), 0, 1, 2);
        DroverTracks empty = new DroverTracks();
        Check.throwing("no farms", NoSuchElementException.class, () -> empty.ranked(0));
    }

    private static void checkRanks(DroverTracks x, int... due) {
        for (int place = 0; place < due.length; place++) {
            Check.due("ranked " + place, due[place], x.ranked(place));
        }
        Check.throwing("ranked -1", NoSuchElementException.class, () -> x.ranked(-1));
        Check.throwing("ranked, too many", NoSuchElementException.class, () -> x.ranked(due.length));
        Check.throwing("ranked, most", NoSuchElementException.class, () -> x.ranked(Integer.MAX_VALUE));
    }

    /** What all questions about ways refuse. */
    private static void checkOfTwo(String name, OfTwo question) {
        DroverTracks x = Land.tree();
        checkNoFarms(name, question);
        Check.throwing(name + ": unlike trees", NoSuchElementException.class, () -> question.ask(x, 0, 5));
        Check.throwing(name + ": unlike trees, turned", NoSuchElementException.class, () -> question.ask(x, 5, 3));
    }

    private static void checkNoFarms(String name, OfTwo question) {
        DroverTracks x = Land.tree();
        int[] none = {-1, 6, 12, Integer.MIN_VALUE, Integer.MAX_VALUE};
        for (int farm : none) {
            Check.throwing(name + "(" + farm + ", 0)", IndexOutOfBoundsException.class, () -> question.ask(x, farm, 0));
            Check.throwing(name + "(0, " + farm + ")", IndexOutOfBoundsException.class, () -> question.ask(x, 0, farm));
            Check.throwing(name + ", both", IndexOutOfBoundsException.class, () -> question.ask(x, farm, farm));
        }
    }

    private static void checkNoFarm(String name, OfOne question) {
        DroverTracks x = Land.tree();
        int[] none = {-1, 6, 12, Integer.MIN_VALUE, Integer.MAX_VALUE};
        for (int farm : none) {
            Check.throwing(name + "(" + farm + ")", IndexOutOfBoundsException.class, () -> question.ask(x, farm));
        }
    }

    private static void questionsOfNoFarm() {
        checkNoFarms("isJoined", (y, one, other) -> y.isJoined(one, other));
        checkNoFarms("isTrack", (y, one, other) -> y.isTrack(one, other));
        checkNoFarm("farmOf", (y, farm) -> y.farmOf(farm, 0));
        checkNoFarm("exposed", (y, farm) -> y.exposed(farm, 0));
        checkNoFarm("wouldChange", (y, farm) -> y.wouldChange(farm));
        checkNoFarm("size", (y, farm) -> y.size(farm));
        checkNoFarm("farthest", (y, farm) -> y.farthest(farm));
        checkNoFarm("longest", (y, farm) -> y.longest(farm));
        checkNoFarm("tree", (y, farm) -> y.tree(farm));
    }

    private static void questionsLeaveAll() {
        DroverTracks x = Land.tree();
        x.expose(3);
        x.drive(1, 2);
        String before = Land.all(x);
        x.steps(2, 4);
        x.next(2, 4);
        x.onWay(2, 4, 1);
        x.meet(2, 4);
        x.sum(2, 4);
        x.sumAgain(2, 4);
        x.dearest(2, 4);
        x.isJoined(2, 4);
        x.isTrack(2, 4);
        x.exposed(2, 0);
        x.wouldChange(2);
        x.farthest(2);
        x.longest(2);
        x.wouldSplit(1, 2);
        x.ranked(2);
        x.way(2, 4);
        x.tree(0);
        x.meanToll();
        Check.due("questions leave all", before, Land.all(x));
        Check.due("and are no changes", 8, x.account(8));
    }
}
