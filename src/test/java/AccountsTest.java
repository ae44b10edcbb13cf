/** Promises 32 to 37: lines, means and accounts. */
public final class AccountsTest {
    public static void main(String[] args) {
        promise32Way();
        promise33Tree();
        promise34Character();
        promise35MeanToll();
        promise35MeanTollOfAllSums();
        promise36PaidShare();
        promise37Account();
        Check.end("AccountsTest");
    }

    private static void promise32Way() {
        DroverTracks x = Land.tree();
        Check.due("length", 18, x.way(2, 4));
        Check.due("way", "2$30>1$20>0$10>4$7", Land.way(x, 2, 4));
        Check.due("back", "4$7>0$10>1$20>2$30", Land.way(x, 4, 2));
        Check.due("itself", "5$50", Land.way(x, 5, 5));
        x.farm(200);
        x.farm(0);
        x.lay(7, 6);
        Check.due("200 and 0", "7$0>6$200", Land.way(x, 7, 6));
        Check.throwing("unlike trees", java.util.NoSuchElementException.class, () -> x.way(0, 7));
        Check.throwing("no one", IndexOutOfBoundsException.class, () -> x.way(8, 0));
        Check.throwing("no other", IndexOutOfBoundsException.class, () -> x.way(0, -1));
        Check.due("the line stays", "7$0>6$200", Land.line(x, 9));
        DroverTracks row = new DroverTracks();
        for (int farm = 0; farm < 12; farm++) {
            row.farm(100 + farm);
            if (farm > 0) {
                row.lay(farm, farm - 1);
            }
        }
        Check.due("the longest line", "0$100>1$101>2$102>3$103>4$104>5$105>6$106>7$107>8$108>9$109>10$110>11$111",
                Land.way(row, 0, 11));
    }

    private static void promise33Tree() {
        DroverTracks x = Land.tree();
        Check.due("none preferred", "0(1(2 3) 4)", Land.tree(x, 0));
        x.expose(3);
        Check.due("length", 13, x.tree(0));
        Check.due("preferred", "0(!1(2 !3) 4)", Land.tree(x, 0));
        Check.due("the first has no sign", "1(2 !3)", Land.tree(x, 1));
        Check.due("a leaf", "3", Land.tree(x, 3));
        Check.due("alone", "5", Land.tree(x, 5));
        x.root(4);
        Check.due("rooted anew", "4(0(1(2 !3)))", Land.tree(x, 4));
        Check.due("the document's", "0(!2(5) 4)", documentsTree());
        DroverTracks row = Land.row(12);
        row.expose(11);
        Check.due("a row", "0(!1(!2(!3(!4(!5(!6(!7(!8(!9(!10(!11)))))))))))", Land.tree(row, 0));
        DroverTracks star = Land.farms(1, 1, 1, 1, 1, 1, 1, 1, 1, 1, 1, 1);
        for (int farm = 10; farm >= 0; farm--) {
            star.lay(farm, 11);
        }
        Check.due("by their numbers", "11(0 1 2 3 4 5 6 7 8 9 10)", Land.tree(star, 11));
        Check.throwing("no farm", IndexOutOfBoundsException.class, () -> star.tree(12));
        Check.throwing("no farm below", IndexOutOfBoundsException.class, () -> star.tree(-1));
    }

    private static String documentsTree() {
        DroverTracks x = Land.farms(1, 1, 1, 1, 1, 1);
        x.lay(4, 0);
        x.lay(2, 0);
        x.lay(5, 2);
        x.expose(2);
        return Land.tree(x, 0);
    }

    private static void promise34Character() {
        DroverTracks x = Land.tree();
        Check.throwing("empty at first", IndexOutOfBoundsException.class, () -> x.character(0));
        x.way(2, 4);
        Check.due("first", '2', x.character(0));
        Check.due("sign", '$', x.character(1));
        Check.due("between", '>', x.character(4));
        Check.due("last", '7', x.character(17));
        Check.throwing("behind", IndexOutOfBoundsException.class, () -> x.character(18));
        Check.throwing("ahead", IndexOutOfBoundsException.class, () -> x.character(-1));
        Check.throwing("most", IndexOutOfBoundsException.class, () -> x.character(Integer.MAX_VALUE));
        x.charge(2, 2, 1);
        x.undo();
        Check.due("stays", '7', x.character(17));
        x.save();
        x.restore();
        Check.due("stays over restore", '7', x.character(17));
        Check.due("a shorter line", 1, x.tree(4));
        Check.throwing("in place of the line before", IndexOutOfBoundsException.class, () -> x.character(1));
    }

    private static void promise35MeanToll() {
        DroverTracks x = new DroverTracks();
        Check.throwing("none", ArithmeticException.class, () -> x.meanToll());
        x.farm(0);
        Check.due("0", 0, x.meanToll());
        x.farm(1);
        Check.due("a half", 0x3f000000, x.meanToll());
        x.farm(0);
        Check.due("a third", 0x3eaaaaab, x.meanToll());
        x.farm(199);
        Check.due("50", 0x42480000, x.meanToll());
        x.undo();
        x.undo();
        x.undo();
        x.undo();
        Check.throwing("none again", ArithmeticException.class, () -> x.meanToll());
    }

    private static void promise35MeanTollOfAllSums() {
        for (int farms = 1; farms <= 12; farms++) {
            for (int sum = 0; sum <= 200 * farms; sum++) {
                DroverTracks x = new DroverTracks();
                int left = sum;
                for (int farm = 0; farm < farms; farm++) {
                    int toll = Math.min(left, 200);
                    x.farm(toll);
                    left -= toll;
                }
                int due = Float.floatToIntBits((float) sum / (float) farms);
                Check.due("mean of " + sum + " by " + farms, due, x.meanToll());
            }
        }
    }

    private static void promise36PaidShare() {
        DroverTracks x = Land.tree();
        Check.throwing("none", ArithmeticException.class, () -> x.paidShare());
        x.drive(0, 3);
        Check.throwing("to come is no drive", ArithmeticException.class, () -> x.paidShare());
        x.drive(0, 4);
        checkShare(x, 37.0);
        x.drive(0, 0);
        checkShare(x, 47.0 / 2.0);
        x.drive(0, 4);
        checkShare(x, 54.0 / 3.0);
        x.drive(0, 3);
        checkShare(x, 89.0 / 4.0);
        x.drive(0, 1);
        x.drive(0, 0);
        x.drive(0, 4);
        checkShare(x, 126.0 / 7.0);
        DroverTracks third = Land.farms(0, 1);
        third.lay(1, 0);
        third.drive(0, 0);
        third.drive(0, 1);
        third.drive(0, 0);
        third.drive(0, 1);
        checkShare(third, 2.0 / 3.0);
        DroverTracks free = Land.farms(0, 0);
        free.lay(1, 0);
        free.drive(0, 0);
        free.drive(0, 1);
        checkShare(free, 0.0);
        free.undo();
        Check.throwing("undone", ArithmeticException.class, () -> free.paidShare());
    }

    private static void checkShare(DroverTracks x, double due) {
        Check.due("paidShare", Double.doubleToLongBits(due), Double.doubleToLongBits(x.paidShare()));
    }

    private static void checkAccounts(String what, DroverTracks x, int... due) {
        for (int account = 0; account < due.length; account++) {
            Check.due(what + ": account " + account, due[account], x.account(account));
        }
    }

    private static void promise37Account() {
        DroverTracks x = Land.farms(10, 20, 30);
        checkAccounts("farms", x, 3, 0, 60, 0, 0, 0, 0, 0, 3, 0);
        x.lay(1, 0);
        x.lay(2, 1);
        checkAccounts("tracks", x, 3, 2, 60, 0, 0, 0, 0, 0, 5, 0);
        x.expose(2);
        checkAccounts("exposed", x, 3, 2, 60, 2, 2, 1, 0, 0, 6, 0);
        x.drive(0, 1);
        checkAccounts("a drover comes", x, 3, 2, 60, 2, 2, 1, 0, 0, 7, 0);
        x.drive(0, 0);
        checkAccounts("a drover drives", x, 3, 2, 60, 1, 3, 2, 1, 10, 8, 0);
        x.append('e');
        x.append('2');
        checkAccounts("characters", x, 3, 2, 60, 1, 3, 2, 1, 10, 8, 2);
        x.commands();
        checkAccounts("a text", x, 3, 2, 60, 2, 4, 3, 1, 10, 8, 0);
        x.charge(0, 2, 5);
        x.giveUp(1, 0);
        checkAccounts("given up", x, 3, 1, 75, 1, 4, 3, 1, 10, 8, 0);
        x.root(2);
        checkAccounts("rooted anew", x, 3, 1, 75, 0, 4, 3, 1, 10, 8, 0);
        x.undo();
        checkAccounts("undone", x, 3, 1, 75, 1, 4, 3, 1, 10, 7, 0);
        x.save();
        x.restore();
        checkAccounts("restored", x, 3, 1, 75, 1, 4, 3, 1, 10, 0, 0);
        Check.throwing("10", IllegalArgumentException.class, () -> x.account(10));
        Check.throwing("-1", IllegalArgumentException.class, () -> x.account(-1));
    }
}
