import java.util.NoSuchElementException;

/** The boundary cases that promises 32 to 37 and their terms name, each with a check of its own. */
public final class BoundariesOfLinesTest {
    private static final int LEAST = Integer.MIN_VALUE;
    private static final int MOST = Integer.MAX_VALUE;
    private static final Class<? extends RuntimeException> INDEX = IndexOutOfBoundsException.class;

    public static void main(String[] args) {
        wayShortAndLong();
        wayOfEachToll();
        wayRefused();
        treeShortAndLong();
        treeOfManyChildren();
        treeRefused();
        characterOfTheEmptyLine();
        characterAtTheEnds();
        characterOfTheLatestLine();
        meanTollOfNone();
        meanTollAtTheEnds();
        paidShareOfNone();
        paidShareAtTheEnds();
        accountWhat();
        accountsAtTheEnds();
        accountsOfPreferences();
        accountsUndone();
        Check.end("BoundariesOfLinesTest");
    }

    // Promise 32: way. "Each farm, '$' and its toll, with '>' between two."

    private static void wayShortAndLong() {
        DroverTracks x = Land.rowOf(12, 200);
        Check.due("to itself, nothing between", "0$200", Land.way(x, 0, 0));
        Check.due("two digits, to itself", 6, x.way(11, 11));
        Check.due("two farms", "10$200>11$200", Land.way(x, 10, 11));
        Check.due("the longest way", 73, x.way(0, 11));
        Check.due("its end", "0>11$200", Land.written(x).substring(65));
        Check.due("the longest way, turned", 73, x.way(11, 0));
        Check.due("its start", "11$200>1", Land.written(x).substring(0, 8));
        DroverTracks free = Land.farms(0, 9, 10, 99, 100);
        Check.due("the shortest line", 3, free.way(0, 0));
        Check.due("a toll of 0", "0$0", Land.written(free));
        for (int farm = 1; farm < 5; farm++) {
            free.lay(farm, farm - 1);
        }
        Check.due("tolls of one, two and three digits", "0$0>1$9>2$10>3$99>4$100", Land.way(free, 0, 4));
    }

    private static void wayOfEachToll() {
        for (int toll = 0; toll <= 200; toll++) {
            Check.due("each toll", "0$" + toll, Land.way(Land.farms(toll), 0, 0));
        }
    }

    private static void wayRefused() {
        DroverTracks x = Land.alone(2);
        Check.throwing("unlike trees", NoSuchElementException.class, () -> x.way(0, 1));
        Check.due("the line is empty still", "", Land.written(x));
        x.way(1, 1);
        int[] none = {-1, 2, 12, LEAST, MOST};
        for (int farm : none) {
            Check.throwing("no such farm, the one: " + farm, INDEX, () -> x.way(farm, 0));
            Check.throwing("no such farm, the other: " + farm, INDEX, () -> x.way(0, farm));
        }
        Check.throwing("unlike trees, turned", NoSuchElementException.class, () -> x.way(1, 0));
        Check.due("the line before stays", "1$1", Land.written(x));
    }

    // Promise 33: tree

    private static void treeShortAndLong() {
        DroverTracks x = Land.rowOf(12, 1);
        Check.due("no children: no brackets", "11", Land.tree(x, 11));
        Check.due("one child: nothing between", "10(11)", Land.tree(x, 10));
        Check.due("none is preferred", 36, x.tree(0));
        x.expose(11);
        Check.due("the longest line", 47, x.tree(0));
        Check.due("each is preferred", "0(!1(!2(!3(!4(!5(!6(!7(!8(!9(!10(!11)))))))))))", Land.written(x));
        Check.due("the farm itself has no sign, a leaf", "11", Land.tree(x, 11));
        Check.due("the farm itself has no sign", "10(!11)", Land.tree(x, 10));
        DroverTracks alone = Land.alone(1);
        Check.due("the shortest line", 1, alone.tree(0));
        Check.due("a farm alone", "0", Land.written(alone));
    }

    private static void treeOfManyChildren() {
        DroverTracks x = Land.alone(12);
        for (int farm = 11; farm >= 1; farm--) {
            x.lay(farm, 0);
        }
        Check.due("by their numbers", "0(1 2 3 4 5 6 7 8 9 10 11)", Land.tree(x, 0));
        x.expose(1);
        Check.due("the first is preferred", "0(!1 2 3 4 5 6 7 8 9 10 11)", Land.tree(x, 0));
        x.expose(11);
        Check.due("the last is preferred", "0(1 2 3 4 5 6 7 8 9 10 !11)", Land.tree(x, 0));
        x.root(11);
        Check.due("what lay behind is turned", "11(0(1 2 3 4 5 6 7 8 9 10))", Land.tree(x, 11));
        Check.due("what lies behind alone", "0(1 2 3 4 5 6 7 8 9 10)", Land.tree(x, 0));
    }

    private static void treeRefused() {
        DroverTracks x = Land.alone(2);
        x.tree(1);
        int[] none = {-1, 2, 12, LEAST, MOST};
        for (int farm : none) {
            Check.throwing("no such farm: " + farm, INDEX, () -> x.tree(farm));
        }
        Check.due("the line before stays", "1", Land.written(x));
    }

    // Promise 34: character

    private static void checkNoCharacter(String what, DroverTracks x, int... indices) {
        for (int index : indices) {
            Check.throwing(what + ", index " + index, INDEX, () -> x.character(index));
        }
    }

    private static void characterOfTheEmptyLine() {
        DroverTracks x = new DroverTracks();
        checkNoCharacter("empty at first", x, 0, 1, -1, 46, 72, 79, 80, LEAST, MOST);
        x.farm(1);
        x.append('f');
        checkNoCharacter("the text buffer is not the line", x, 0, -1, 1);
    }

    private static void characterAtTheEnds() {
        DroverTracks x = Land.rowOf(12, 200);
        x.way(0, 11);
        Check.due("the first", '0', x.character(0));
        Check.due("the last", '0', x.character(72));
        Check.due("the last but three", '$', x.character(69));
        checkNoCharacter("the longest line", x, 73, 74, 79, 80, -1, LEAST, MOST);
        x.tree(11);
        Check.due("two characters, the first", '1', x.character(0));
        Check.due("two characters, the last", '1', x.character(1));
        checkNoCharacter("two characters", x, 2, 3, 72, -1, LEAST, MOST);
    }

    /** "In place of the line before"; the line stays through undo and restore. */
    private static void characterOfTheLatestLine() {
        DroverTracks x = Land.rowOf(12, 200);
        x.save();
        x.way(0, 11);
        x.tree(9);
        Check.due("a shorter line in place of the longest", "9(10(11))", Land.written(x));
        x.way(3, 3);
        Check.due("a still shorter one", "3$200", Land.written(x));
        x.charge(3, 3, -50);
        x.undo();
        x.restore();
        Check.due("changes, undo and restore leave it", "3$200", Land.written(x));
    }

    // Promise 35: meanToll. "The sum divided by their number, both as floats."

    private static void meanTollOfNone() {
        DroverTracks x = new DroverTracks();
        Check.throwing("there are none", ArithmeticException.class, () -> x.meanToll());
        x.save();
        x.farm(5);
        x.undo();
        Check.throwing("undone: there are none", ArithmeticException.class, () -> x.meanToll());
        x.farm(5);
        x.restore();
        Check.throwing("restored: there are none", ArithmeticException.class, () -> x.meanToll());
    }

    private static void checkMean(String what, float due, DroverTracks x) {
        Check.due(what, Float.floatToIntBits(due), x.meanToll());
    }

    private static void meanTollAtTheEnds() {
        checkMean("the least", 0f, Land.farms(0));
        checkMean("the least, twelve farms", 0f, Land.rowOf(12, 0));
        checkMean("the greatest", 200f, Land.farms(200));
        checkMean("the greatest, twelve farms", 200f, Land.rowOf(12, 200));
        checkMean("the least but 0", 1f / 12f, Land.farms(1, 0, 0, 0, 0, 0, 0, 0, 0, 0, 0, 0));
        checkMean("a half is not rounded", 0.5f, Land.farms(0, 1));
        checkMean("rounded as floats are", 2f / 3f, Land.farms(0, 1, 1));
        int[] bySteps = {1, 2, 3, 4, 7, 8, 15, 16, 31, 32, 63, 64, 127, 128, 199};
        for (int toll : bySteps) {
            checkMean("at a step of the floats: " + toll, (float) toll, Land.farms(toll));
            checkMean("half of it", (float) toll / 2f, Land.farms(toll, 0));
        }
        DroverTracks x = Land.alone(12);
        checkMean("1 itself", 1f, x);
        x.charge(0, 0, -1);
        checkMean("just below 1", 11f / 12f, x);
        x.charge(0, 0, 2);
        checkMean("just above 1", 13f / 12f, x);
        DroverTracks dear = Land.rowOf(12, 200);
        dear.charge(0, 0, -1);
        checkMean("the greatest but 200", 2399f / 12f, dear);
        dear.undo();
        checkMean("undone", 200f, dear);
    }

    // Promise 36: paidShare. "Of what was paid for each drive so far along a way."

    private static void checkNoShare(String what, DroverTracks x) {
        Check.throwing(what, ArithmeticException.class, () -> x.paidShare());
    }

    private static void checkShare(String what, double due, DroverTracks x) {
        Check.due(what, Double.doubleToLongBits(due), Double.doubleToLongBits(x.paidShare()));
    }

    private static void paidShareOfNone() {
        DroverTracks x = Land.rowOf(2, 7);
        checkNoShare("there was none", x);
        x.save();
        x.drive(0, 0);
        checkNoShare("from nowhere is none", x);
        Check.throwing("there already", UnsupportedOperationException.class, () -> x.drive(0, 0));
        checkNoShare("refused is none", x);
        Land.text(x, "d0>1;d0>1");
        Check.throwing("a text", UnsupportedOperationException.class, () -> x.commands());
        checkNoShare("in a refused text is none", x);
        x.drive(0, 1);
        checkShare("the first", 7.0, x);
        x.undo();
        checkNoShare("undone: there was none", x);
        x.drive(0, 1);
        x.restore();
        checkNoShare("restored: there was none", x);
    }

    private static void paidShareAtTheEnds() {
        DroverTracks free = Land.rowOf(2, 0);
        free.drive(0, 0);
        free.drive(0, 1);
        checkShare("nothing was paid", 0.0, free);
        DroverTracks dear = Land.rowOf(12, 200);
        dear.drive(0, 0);
        dear.drive(1, 11);
        for (int drive = 1; drive <= 100; drive++) {
            dear.drive(0, drive % 2 == 1 ? 11 : 0);
            checkShare("the most is paid each time", 2200.0, dear);
        }
        DroverTracks x = Land.farms(0, 1, 0, 1);
        x.lay(1, 0);
        x.lay(2, 1);
        x.drive(2, 0);
        x.drive(2, 2);
        x.drive(2, 0);
        x.drive(2, 2);
        checkShare("the farms between are paid", 1.0, x);
        x.drive(2, 1);
        x.drive(2, 2);
        x.drive(2, 1);
        x.drive(2, 2);
        checkShare("5 by 7, as doubles", 5.0 / 7.0, x);
    }

    // Promise 37: account

    private static void accountWhat() {
        DroverTracks x = new DroverTracks();
        int[] none = {-1, 10, 11, LEAST, MOST};
        for (int what : none) {
            Check.throwing("not from 0 to 9: " + what, IllegalArgumentException.class, () -> x.account(what));
        }
        Check.due("0, the first", 0, x.account(0));
        Check.due("9, the last", 0, x.account(9));
    }

    private static void checkAccounts(String what, DroverTracks x, int... due) {
        for (int account = 0; account < due.length; account++) {
            Check.due(what + ": account " + account, due[account], x.account(account));
        }
    }

    private static void accountsAtTheEnds() {
        checkAccounts("without farms", new DroverTracks(), 0, 0, 0, 0, 0, 0, 0, 0, 0, 0);
        checkAccounts("a farm alone", Land.farms(0), 1, 0, 0, 0, 0, 0, 0, 0, 1, 0);
        checkAccounts("twelve alone", Land.alone(12), 12, 0, 12, 0, 0, 0, 0, 0, 8, 0);
        DroverTracks x = Land.rowOf(12, 200);
        for (int length = 0; length < 60; length++) {
            x.append('e');
        }
        x.drive(0, 0);
        x.drive(0, 11);
        checkAccounts("all that can be", x, 12, 11, 2400, 11, 11, 1, 1, 2200, 8, 60);
        Check.throwing("one too many", IllegalStateException.class, () -> x.append('e'));
        Check.throwing("one farm too many", UnsupportedOperationException.class, () -> x.farm(200));
        Check.throwing("one track too many", UnsupportedOperationException.class, () -> x.lay(11, 0));
        checkAccounts("refused", x, 12, 11, 2400, 11, 11, 1, 1, 2200, 8, 60);
    }

    /** What is preferred now is one account, what preferred something else so far another. */
    private static void accountsOfPreferences() {
        DroverTracks x = Land.rowOf(12, 1);
        x.expose(11);
        x.expose(0);
        checkAccounts("one less prefers", x, 12, 11, 12, 10, 12, 2, 0, 0, 8, 0);
        x.giveUp(5, 6);
        checkAccounts("given up", x, 12, 10, 12, 9, 12, 2, 0, 0, 8, 0);
        x.root(5);
        checkAccounts("rooted anew", x, 12, 10, 12, 5, 12, 2, 0, 0, 8, 0);
        x.lay(11, 0);
        checkAccounts("laid by rooting anew", x, 12, 11, 12, 0, 12, 2, 0, 0, 8, 0);
        x.drive(2, 4);
        checkAccounts("from nowhere", x, 12, 11, 12, 0, 12, 2, 0, 0, 8, 0);
        x.drive(2, 3);
        checkAccounts("driven", x, 12, 11, 12, 2, 14, 3, 1, 1, 8, 0);
    }

    private static void accountsUndone() {
        DroverTracks x = Land.rowOf(2, 5);
        x.drive(1, 0);
        x.append('?');
        x.drive(1, 1);
        checkAccounts("driven", x, 2, 1, 10, 1, 1, 1, 1, 5, 5, 1);
        x.undo();
        checkAccounts("undone", x, 2, 1, 10, 0, 0, 0, 0, 0, 4, 1);
        x.undo();
        x.undo();
        checkAccounts("without the track", x, 2, 0, 10, 0, 0, 0, 0, 0, 2, 1);
        x.undo();
        x.undo();
        checkAccounts("without farms", x, 0, 0, 0, 0, 0, 0, 0, 0, 0, 1);
    }
}
