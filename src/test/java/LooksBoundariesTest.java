/** The boundary cases of promises 9 to 16, a test for each sentence that names one. */
public final class LooksBoundariesTest {
    private static final int MIN = Integer.MIN_VALUE;
    private static final int MAX = Integer.MAX_VALUE;
    private static final int MOST = 60;
    private static final int[] BAD_REPLICAS = {MIN, -1, 3, MAX};
    private static final int[] BAD_ROWS = {MIN, -1, 8, MAX};

    public static void main(String[] args) {
        thereBad();
        nameOfAbsent();
        nameOfBad();
        countOfAbsent();
        countOfBad();
        linkOfBothThere();
        linkOfBad();
        rowsFromNoneToAll();
        rowsBad();
        sumWraps();
        sumOfRowsThere();
        sumBad();
        knownFromNoneToAll();
        knownBad();
        agreeOnRows();
        agreeOnNames();
        agreeOnCounts();
        agreeOnReferences();
        agreeOnWhatShowsAlone();
        agreeBad();
        Due.end();
    }

    /** Every replica has every row there, with a name, a count and a link to itself; bad rows were tried too. */
    private static CrdtTable everythingShows() {
        CrdtTable x = new CrdtTable();
        for (int row = -1; row <= 8; row++) {
            x.add(0, row);
            x.name(0, row, 10 + row);
            x.count(0, row, 20 + row);
            x.link(0, row, row);
        }
        x.learn(1, 0);
        x.learn(2, 1);
        return x;
    }

    private static void thereBad() {
        Due.bySentence("Promise 9: false for a bad replica or row");
        CrdtTable x = everythingShows();
        for (int good = 0; good < 8; good++) {
            Due.is("good: row " + good, true, x.there(2, good));
            for (int bad : BAD_REPLICAS) {
                Due.is("replica " + bad, false, x.there(bad, good));
            }
        }
        for (int good = 0; good < 3; good++) {
            for (int bad : BAD_ROWS) {
                Due.is("row " + bad, false, x.there(good, bad));
            }
        }
        Due.is("both bad", false, x.there(3, 8) || x.there(-1, -1));
    }

    private static void nameOfAbsent() {
        Due.bySentence("Promise 10: The row's name if it is there, else 0");
        CrdtTable x = new CrdtTable();
        Due.is("never added", 0, x.nameOf(0, 0));
        x.add(0, 0);
        Due.is("there without a name", 0, x.nameOf(0, 0));
        x.name(0, 0, 6);
        Due.is("there", 6, x.nameOf(0, 0));
        Due.is("there at another replica alone", 0, x.nameOf(1, 0));
        x.drop(0, 0);
        Due.is("dropped", 0, x.nameOf(0, 0));
        x.learn(1, 0);
        Due.is("learned when dropped", 0, x.nameOf(1, 0));
        x.add(1, 0);
        Due.is("added again", 6, x.nameOf(1, 0));
    }

    private static void nameOfBad() {
        Due.bySentence("Promise 10: 0 for a bad replica or row");
        CrdtTable x = everythingShows();
        for (int good = 0; good < 8; good++) {
            Due.is("good: row " + good, 10 + good, x.nameOf(2, good));
            for (int bad : BAD_REPLICAS) {
                Due.is("replica " + bad, 0, x.nameOf(bad, good));
            }
        }
        for (int good = 0; good < 3; good++) {
            for (int bad : BAD_ROWS) {
                Due.is("row " + bad, 0, x.nameOf(good, bad));
            }
        }
        Due.is("both bad", 0, x.nameOf(3, 8));
    }

    private static void countOfAbsent() {
        Due.bySentence("Promise 11: The row's count if it is there, else 0");
        CrdtTable x = new CrdtTable();
        Due.is("never added", 0, x.countOf(0, 0));
        x.add(0, 0);
        Due.is("there without a count", 0, x.countOf(0, 0));
        x.count(0, 0, 6);
        Due.is("there", 6, x.countOf(0, 0));
        Due.is("there at another replica alone", 0, x.countOf(1, 0));
        x.drop(0, 0);
        Due.is("dropped", 0, x.countOf(0, 0));
        x.learn(1, 0);
        Due.is("learned when dropped", 0, x.countOf(1, 0));
        x.add(1, 0);
        x.count(1, 0, 1);
        Due.is("added again, it goes on from where it was", 7, x.countOf(1, 0));
    }

    private static void countOfBad() {
        Due.bySentence("Promise 11: 0 for a bad replica or row");
        CrdtTable x = everythingShows();
        for (int good = 0; good < 8; good++) {
            Due.is("good: row " + good, 20 + good, x.countOf(2, good));
            for (int bad : BAD_REPLICAS) {
                Due.is("replica " + bad, 0, x.countOf(bad, good));
            }
        }
        for (int good = 0; good < 3; good++) {
            for (int bad : BAD_ROWS) {
                Due.is("row " + bad, 0, x.countOf(good, bad));
            }
        }
        Due.is("both bad", 0, x.countOf(3, 8));
    }

    private static void linkOfBothThere() {
        Due.bySentence("Promise 12: The row that the row refers to, if both are there; else -1");
        CrdtTable x = new CrdtTable();
        Due.is("never added", -1, x.linkOf(0, 7));
        x.add(0, 7);
        x.add(0, 0);
        Due.is("no link, though row 0 is there", -1, x.linkOf(0, 7));
        x.link(0, 7, 0);
        Due.is("both there", 0, x.linkOf(0, 7));
        Due.is("it has one direction", -1, x.linkOf(0, 0));
        Due.is("there at another replica alone", -1, x.linkOf(1, 7));
        x.drop(0, 0);
        Due.is("the row it refers to is not there", -1, x.linkOf(0, 7));
        x.drop(0, 7);
        Due.is("neither is there", -1, x.linkOf(0, 7));
        x.add(0, 0);
        Due.is("the row itself is not there", -1, x.linkOf(0, 7));
        x.add(0, 7);
        Due.is("both there again", 0, x.linkOf(0, 7));
        x.link(0, 7, 7);
        Due.is("to itself", 7, x.linkOf(0, 7));
        x.link(0, 0, 7);
        x.link(0, 7, 0);
        Due.is("around: one", 0, x.linkOf(0, 7));
        Due.is("around: the other", 7, x.linkOf(0, 0));
        x.link(0, 7, -1);
        Due.is("to none", -1, x.linkOf(0, 7));
    }

    private static void linkOfBad() {
        Due.bySentence("Promise 12: (also for a bad replica or row)");
        CrdtTable x = everythingShows();
        for (int good = 0; good < 8; good++) {
            Due.is("good: row " + good, good, x.linkOf(2, good));
            for (int bad : BAD_REPLICAS) {
                Due.is("replica " + bad, -1, x.linkOf(bad, good));
            }
        }
        for (int good = 0; good < 3; good++) {
            for (int bad : BAD_ROWS) {
                Due.is("row " + bad, -1, x.linkOf(good, bad));
            }
        }
        Due.is("both bad", -1, x.linkOf(3, 8));
    }

    private static void rowsFromNoneToAll() {
        Due.bySentence("Promise 13: How many rows are there");
        CrdtTable x = new CrdtTable();
        Due.is("none", 0, x.rows(1));
        for (int row = 7; row >= 0; row--) {
            x.add(1, row);
            Due.is("one more", 8 - row, x.rows(1));
        }
        x.add(1, 7);
        Due.is("all, one of them twice", 8, x.rows(1));
        Due.is("there at another replica alone", 0, x.rows(2));
        for (int row = 7; row >= 0; row--) {
            x.drop(1, row);
            Due.is("one less", row, x.rows(1));
        }
    }

    private static void rowsBad() {
        Due.bySentence("Promise 13: BAD_REPLICA");
        CrdtTable x = everythingShows();
        for (int bad : BAD_REPLICAS) {
            Due.is("rows(" + bad + ")", CrdtTable.BAD_REPLICA, x.rows(bad));
        }
        Due.is("the least replica", 8, x.rows(0));
        Due.is("the greatest replica", 8, x.rows(2));
    }

    private static void sumWraps() {
        Due.bySentence("Promise 14: The sum (wrapping) of the counts");
        CrdtTable x = new CrdtTable();
        x.add(0, 0);
        x.add(0, 7);
        x.count(0, 0, MAX);
        Due.is("the greatest", MAX, x.sum(0));
        x.count(0, 7, 1);
        Due.is("upwards, over two rows", MIN, x.sum(0));
        x.count(0, 7, MAX);
        Due.is("upwards, one row having wrapped itself", -1, x.sum(0));
        x.add(0, 3);
        x.count(0, 3, MIN);
        Due.is("downwards, over three rows", MAX, x.sum(0));
        x.drop(0, 7);
        Due.is("without the row that had wrapped", -1, x.sum(0));
        x.drop(0, 0);
        Due.is("the smallest", MIN, x.sum(0));
        x.add(0, 4);
        x.count(0, 4, MIN);
        Due.is("the smallest twice", 0, x.sum(0));
    }

    private static void sumOfRowsThere() {
        Due.bySentence("Promise 14: of all rows that are there");
        CrdtTable x = new CrdtTable();
        Due.is("no row", 0, x.sum(0));
        int total = 0;
        for (int row = 0; row < 8; row++) {
            x.add(0, row);
            Due.is("a row without a count", total, x.sum(0));
            x.count(0, row, 1 << row);
            total += 1 << row;
            Due.is("a row with a count", total, x.sum(0));
        }
        Due.is("there at another replica alone", 0, x.sum(1));
        for (int row = 0; row < 8; row++) {
            x.drop(0, row);
            total -= 1 << row;
            Due.is("row " + row + " is not there", total, x.sum(0));
        }
        x.add(0, 5);
        Due.is("there again", 1 << 5, x.sum(0));
    }

    private static void sumBad() {
        Due.bySentence("Promise 14: BAD_REPLICA");
        CrdtTable x = everythingShows();
        for (int bad : BAD_REPLICAS) {
            Due.is("sum(" + bad + ")", CrdtTable.BAD_REPLICA, x.sum(bad));
        }
        Due.is("the least replica", 188, x.sum(0));
        Due.is("the greatest replica", 188, x.sum(2));
    }

    private static void knownFromNoneToAll() {
        Due.bySentence("Promise 15: How many actions the replica knows");
        CrdtTable x = new CrdtTable();
        for (int action = 0; action < MOST; action++) {
            Due.is("before action " + action, action, x.known(1));
            x.add(1, action % 8);
        }
        Due.is("all 60", MOST, x.known(1));
        x.add(1, 0);
        Due.is("a refused one is not known", MOST, x.known(1));
        Due.is("none", 0, x.known(2));
        x.learnSome(2, 1, 59);
        Due.is("59 learned", 59, x.known(2));
        x.learn(2, 1);
        Due.is("60 learned", MOST, x.known(2));
        Due.is("still none", 0, x.known(0));
    }

    private static void knownBad() {
        Due.bySentence("Promise 15: BAD_REPLICA");
        CrdtTable x = everythingShows();
        for (int bad : BAD_REPLICAS) {
            Due.is("known(" + bad + ")", CrdtTable.BAD_REPLICA, x.known(bad));
        }
        Due.is("the least replica", 32, x.known(0));
        Due.is("the greatest replica", 32, x.known(2));
    }

    private static void bothWays(String when, boolean due, CrdtTable x, int a, int b) {
        Due.is(when + ": agree(" + a + ", " + b + ")", due, x.agree(a, b));
        Due.is(when + ": agree(" + b + ", " + a + ")", due, x.agree(b, a));
    }

    private static void agreeOnRows() {
        Due.bySentence("Promise 16: the same rows there");
        CrdtTable x = new CrdtTable();
        bothWays("both empty", true, x, 0, 2);
        for (int row = 0; row < 8; row++) {
            x.add(0, row);
            bothWays("row " + row + " there at one", false, x, 0, 2);
            Due.is("with itself", true, x.agree(0, 0));
            x.add(2, row);
            bothWays("row " + row + " there at both, by other actions", true, x, 0, 2);
        }
        x.drop(0, 0);
        x.drop(2, 7);
        bothWays("as many rows, but others", false, x, 0, 2);
        x.drop(2, 0);
        x.drop(0, 7);
        bothWays("the same rows dropped", true, x, 0, 2);
        bothWays("the third is empty", false, x, 1, 2);
    }

    private static void agreeOnNames() {
        Due.bySentence("Promise 16: with the same names, counts and references");
        CrdtTable x = new CrdtTable();
        for (int row = 0; row < 8; row += 7) {
            x.add(1, row);
            x.add(2, row);
            x.name(1, row, 4);
            bothWays("a name at one, of row " + row, false, x, 1, 2);
            x.name(2, row, 5);
            bothWays("other names of row " + row, false, x, 1, 2);
            x.name(2, row, 4);
            bothWays("the same name of row " + row, true, x, 1, 2);
            x.name(1, row, 0);
            x.name(2, row, 0);
            bothWays("both 0, of row " + row, true, x, 1, 2);
        }
        x.add(0, 0);
        x.add(0, 7);
        bothWays("0 and no name", true, x, 0, 1);
    }

    private static void agreeOnCounts() {
        Due.bySentence("Promise 16: with the same names, counts and references");
        CrdtTable x = new CrdtTable();
        for (int row = 0; row < 8; row += 7) {
            x.add(1, row);
            x.add(2, row);
            x.count(1, row, 2);
            bothWays("a count at one, of row " + row, false, x, 1, 2);
            x.count(2, row, 1);
            bothWays("other counts of row " + row, false, x, 1, 2);
            x.count(2, row, 1);
            bothWays("the same count by other steps, of row " + row, true, x, 1, 2);
            x.count(1, row, -2);
            x.count(2, row, MAX);
            x.count(2, row, MAX);
            bothWays("both 0, one having wrapped, of row " + row, true, x, 1, 2);
        }
        x.count(1, 0, 1);
        x.count(2, 7, 1);
        bothWays("the same sum, but other counts", false, x, 1, 2);
    }

    private static void agreeOnReferences() {
        Due.bySentence("Promise 16: with the same names, counts and references");
        CrdtTable x = new CrdtTable();
        for (int p = 0; p < 2; p++) {
            x.add(p, 0);
            x.add(p, 7);
        }
        x.link(0, 7, 0);
        bothWays("a link at one", false, x, 0, 1);
        x.link(1, 7, 7);
        bothWays("other links", false, x, 0, 1);
        x.link(1, 7, 0);
        bothWays("the same links", true, x, 0, 1);
        x.link(0, 0, 0);
        bothWays("a link at one, of row 0", false, x, 0, 1);
        x.link(0, 0, -1);
        bothWays("none by a link, and no link", true, x, 0, 1);
        x.link(0, 7, 3);
        x.link(1, 7, 5);
        bothWays("both refer to rows that are not there", true, x, 0, 1);
        x.add(0, 3);
        x.add(1, 3);
        bothWays("one of these rows is there now", false, x, 0, 1);
    }

    private static void agreeOnWhatShowsAlone() {
        Due.bySentence("Promise 16: Whether two replicas show the same");
        CrdtTable x = new CrdtTable();
        x.add(0, 1);
        x.name(0, 1, 3);
        x.count(0, 1, 3);
        x.link(0, 1, 1);
        x.drop(0, 1);
        bothWays("what a dropped row had doesn't show", true, x, 0, 1);
        x.add(0, 1);
        x.add(1, 1);
        bothWays("it shows again", false, x, 0, 1);
        x.learn(1, 0);
        bothWays("'to' knows more, and shows the same", true, x, 0, 1);
        x.add(1, 1);
        bothWays("an add of a row that is there", true, x, 0, 1);
        x.count(1, 1, 0);
        bothWays("a count by 0", true, x, 0, 1);
        x.learnSome(2, 0, 5);
        bothWays("not all learned, row dropped", false, x, 2, 0);
        x.learn(2, 1);
        bothWays("all learned", true, x, 2, 1);
    }

    private static void agreeBad() {
        Due.bySentence("Promise 16: false for a bad replica");
        CrdtTable empty = new CrdtTable();
        CrdtTable x = everythingShows();
        for (int bad : BAD_REPLICAS) {
            for (int good = 0; good < 3; good++) {
                bothWays("both show nothing", false, empty, bad, good);
                bothWays("one is bad", false, x, bad, good);
            }
            Due.is("with itself, " + bad, false, x.agree(bad, bad));
            Due.is("with itself, nothing shown, " + bad, false, empty.agree(bad, bad));
        }
        bothWays("the least and the greatest replica", true, x, 0, 2);
    }
}
