/** The boundary cases of promises 1 to 8, a test for each sentence that names one. */
public final class ActionsBoundariesTest {
    private static final int MIN = Integer.MIN_VALUE;
    private static final int MAX = Integer.MAX_VALUE;
    private static final int MOST = 60;
    private static final int[] BAD_REPLICAS = {MIN, -1, 3, MAX};

    public static void main(String[] args) {
        newObject();
        addOfARowThatIsThere();
        dropAbsent();
        nameAbsent();
        nameOfAnyInt();
        countAbsent();
        countByAnyInt();
        linkTo();
        linkAbsent();
        learnAll();
        learnBadReplica();
        learnSame();
        learnAnswer();
        learnSomeAtMost();
        learnSomeSmallestNumbers();
        learnSomeBelowZero();
        learnSomeRefused();
        learnSomeAnswer();
        Due.end();
    }

    private static void newObject() {
        Due.bySentence("Promise 1: No actions.");
        CrdtTable x = new CrdtTable();
        for (int p = 0; p < 3; p++) {
            Due.is("known", 0, x.known(p));
            Due.is("rows", 0, x.rows(p));
            Due.is("sum", 0, x.sum(p));
            for (int r = 0; r < 8; r++) {
                Due.is("there", false, x.there(p, r));
                Due.is("drop", CrdtTable.ABSENT, x.drop(p, r));
                Due.is("nameOf", 0, x.nameOf(p, r));
                Due.is("countOf", 0, x.countOf(p, r));
                Due.is("linkOf", -1, x.linkOf(p, r));
            }
        }
        Due.is("nothing to learn", 0, x.learn(0, 2));
        Due.is("nothing to learn some of", 0, x.learnSome(1, 0, MAX));
        Due.is("all agree", true, x.agree(0, 1) && x.agree(1, 2) && x.agree(2, 0));
        Due.is("all 60 are free", 0, x.add(0, 0));
        Due.is("another object has its own", 0, new CrdtTable().known(0));
    }

    private static void addOfARowThatIsThere() {
        Due.bySentence("Promise 2: (Also of a row that is there.)");
        CrdtTable x = new CrdtTable();
        Due.is("first add", 0, x.add(0, 7));
        x.name(0, 7, 3);
        x.count(0, 7, 4);
        x.link(0, 7, 7);
        x.learn(1, 0);
        Due.is("second add", 4, x.add(0, 7));
        Due.is("it is an action", 5, x.known(0));
        Due.is("one row all the same", 1, x.rows(0));
        Due.is("its name stays", 3, x.nameOf(0, 7));
        Due.is("its count stays", 4, x.countOf(0, 7));
        Due.is("its link stays", 7, x.linkOf(0, 7));
        x.drop(1, 7);
        x.learn(0, 1);
        Due.is("a drop that knew the first alone", true, x.there(0, 7));
        Due.is("a drop that knows both", 6, x.drop(0, 7));
        Due.is("gone", false, x.there(0, 7));
        Due.is("add of a dropped row", 7, x.add(0, 7));
        Due.is("there again", true, x.there(0, 7));
        Due.is("add of a row that was learned", 1, x.learnSome(2, 0, 1));
        Due.is("and is there", 8, x.add(2, 7));
    }

    private static void dropAbsent() {
        Due.bySentence("Promise 3: The row is not there at the replica: ABSENT");
        CrdtTable x = new CrdtTable();
        Due.is("never added", CrdtTable.ABSENT, x.drop(0, 7));
        x.add(0, 7);
        Due.is("there at another replica alone", CrdtTable.ABSENT, x.drop(1, 7));
        Due.is("another row", CrdtTable.ABSENT, x.drop(0, 6));
        x.learn(1, 0);
        Due.is("there by learning", 1, x.drop(1, 7));
        Due.is("dropped", CrdtTable.ABSENT, x.drop(1, 7));
        x.learn(0, 1);
        Due.is("dropped by learning", CrdtTable.ABSENT, x.drop(0, 7));
        x.add(0, 7);
        Due.is("added again", 3, x.drop(0, 7));
    }

    private static void nameAbsent() {
        Due.bySentence("Promise 4: The row is not there: ABSENT");
        CrdtTable x = new CrdtTable();
        Due.is("never added", CrdtTable.ABSENT, x.name(0, 7, 1));
        x.add(0, 7);
        Due.is("there at another replica alone", CrdtTable.ABSENT, x.name(1, 7, 1));
        Due.is("another row", CrdtTable.ABSENT, x.name(0, 6, 1));
        x.learn(1, 0);
        Due.is("there by learning", 1, x.name(1, 7, 1));
        x.drop(1, 7);
        Due.is("dropped", CrdtTable.ABSENT, x.name(1, 7, 2));
        x.learn(0, 1);
        Due.is("dropped by learning", CrdtTable.ABSENT, x.name(0, 7, 2));
        x.add(0, 7);
        Due.is("refused names are not kept", 1, x.nameOf(0, 7));
        Due.is("added again", 4, x.name(0, 7, 2));
    }

    private static void nameOfAnyInt() {
        Due.bySentence("Promise 4: a NAME (an int)");
        CrdtTable x = new CrdtTable();
        x.add(0, 0);
        int number = 1;
        for (int name : new int[] {MIN, -5, -1, 0, 1, MAX}) {
            Due.is("name " + name, number, x.name(0, 0, name));
            Due.is("nameOf " + name, name, x.nameOf(0, 0));
            number++;
        }
    }

    private static void countAbsent() {
        Due.bySentence("Promise 5: The row is not there: ABSENT");
        CrdtTable x = new CrdtTable();
        Due.is("never added", CrdtTable.ABSENT, x.count(0, 7, 1));
        x.add(0, 7);
        Due.is("there at another replica alone", CrdtTable.ABSENT, x.count(1, 7, 1));
        Due.is("another row", CrdtTable.ABSENT, x.count(0, 6, 1));
        x.learn(1, 0);
        Due.is("there by learning", 1, x.count(1, 7, 1));
        x.drop(1, 7);
        Due.is("dropped", CrdtTable.ABSENT, x.count(1, 7, 2));
        x.learn(0, 1);
        Due.is("dropped by learning", CrdtTable.ABSENT, x.count(0, 7, 2));
        x.add(0, 7);
        Due.is("refused counts are not kept", 1, x.countOf(0, 7));
        Due.is("added again", 4, x.count(0, 7, 2));
    }

    private static void countByAnyInt() {
        Due.bySentence("Promise 5: a COUNT (an int that wraps)");
        CrdtTable x = new CrdtTable();
        int[] steps = {0, -1, 0, MIN, MAX, 1, 5, MAX};
        int[] counts = {0, -1, -1, MAX, -2, -1, 4, MIN + 3};
        x.add(0, 0);
        for (int step = 0; step < steps.length; step++) {
            Due.is("count by " + steps[step], step + 1, x.count(0, 0, steps[step]));
            Due.is("then countOf", counts[step], x.countOf(0, 0));
        }
    }

    private static void linkTo() {
        Due.bySentence("Promise 6: to is -1 (none) or a row 0 to 7 (which need not be there), otherwise BAD_ROW");
        CrdtTable x = new CrdtTable();
        x.add(0, 3);
        for (int to : new int[] {MIN, -5, -3, -2, 8, 9, MAX}) {
            Due.is("to " + to, CrdtTable.BAD_ROW, x.link(0, 3, to));
            Due.is("to " + to + " of a row not there", CrdtTable.BAD_ROW, x.link(0, 4, to));
            Due.is("to " + to + " at a bad replica", CrdtTable.BAD_REPLICA, x.link(3, 3, to));
        }
        Due.is("a bad row to none", CrdtTable.BAD_ROW, x.link(0, 8, -1));
        Due.is("row -1 is no row", CrdtTable.BAD_ROW, x.link(0, -1, -1));
        for (int to = -1; to < 8; to++) {
            Due.is("to " + to, to + 2, x.link(0, 3, to));
            Due.is("shows if there: " + to, to == 3 ? 3 : -1, x.linkOf(0, 3));
        }
        Due.is("add the row it refers to", 10, x.add(0, 7));
        Due.is("shows now", 7, x.linkOf(0, 3));
        Due.is("to none", 11, x.link(0, 3, -1));
        Due.is("refers to none", -1, x.linkOf(0, 3));
    }

    private static void linkAbsent() {
        Due.bySentence("Promise 6: The row is not there: ABSENT");
        CrdtTable x = new CrdtTable();
        Due.is("never added", CrdtTable.ABSENT, x.link(0, 7, 0));
        Due.is("never added, to itself", CrdtTable.ABSENT, x.link(0, 7, 7));
        Due.is("never added, to none", CrdtTable.ABSENT, x.link(0, 7, -1));
        x.add(0, 7);
        Due.is("there at another replica alone", CrdtTable.ABSENT, x.link(1, 7, 7));
        Due.is("another row, to one that is there", CrdtTable.ABSENT, x.link(0, 6, 7));
        x.learn(1, 0);
        Due.is("there by learning", 1, x.link(1, 7, 7));
        x.drop(1, 7);
        Due.is("dropped", CrdtTable.ABSENT, x.link(1, 7, -1));
        x.learn(0, 1);
        Due.is("dropped by learning", CrdtTable.ABSENT, x.link(0, 7, -1));
        x.add(0, 7);
        Due.is("refused links are not kept", 7, x.linkOf(0, 7));
        Due.is("added again", 4, x.link(0, 7, -1));
    }

    private static void learnAll() {
        Due.bySentence("Promise 7: Replica 'to' learns all actions that replica 'from' knows");
        CrdtTable x = new CrdtTable();
        Due.is("nothing is known", 0, x.learn(0, 1));
        x.add(0, 0);
        x.name(0, 0, 4);
        x.learn(1, 0);
        x.add(1, 1);
        x.add(2, 2);
        x.learn(2, 1);
        Due.is("its own, done by 'from' and learned by 'from'", 4, x.known(2));
        Due.is("what 'from' learned: row", true, x.there(2, 0));
        Due.is("what 'from' learned: name", 4, x.nameOf(2, 0));
        Due.is("what 'from' did", true, x.there(2, 1));
        Due.is("'to' keeps its own", true, x.there(2, 2));
        Due.is("'from' learns nothing", 3, x.known(1));
        Due.is("'from' doesn't see the row of 'to'", false, x.there(1, 2));
        Due.is("the third replica learns nothing", 2, x.known(0));
    }

    private static void learnBadReplica() {
        Due.bySentence("Promise 7: A replica not in 0 to 2: BAD_REPLICA");
        CrdtTable x = new CrdtTable();
        x.add(0, 0);
        for (int bad : BAD_REPLICAS) {
            for (int good = 0; good < 3; good++) {
                Due.is("to " + bad, CrdtTable.BAD_REPLICA, x.learn(bad, good));
                Due.is("from " + bad, CrdtTable.BAD_REPLICA, x.learn(good, bad));
            }
            Due.is("both " + bad + ", not SAME", CrdtTable.BAD_REPLICA, x.learn(bad, bad));
        }
        Due.is("nothing learned", 0, x.known(1) + x.known(2));
    }

    private static void learnSame() {
        Due.bySentence("Promise 7: the same: SAME");
        CrdtTable x = new CrdtTable();
        for (int p = 0; p < 3; p++) {
            Due.is("knowing nothing", CrdtTable.SAME, x.learn(p, p));
            x.add(p, 0);
            Due.is("knowing one", CrdtTable.SAME, x.learn(p, p));
            Due.is("nothing learned", 1, x.known(p));
        }
    }

    private static void learnAnswer() {
        Due.bySentence("Promise 7: Else answers how many actions it didn't know before");
        CrdtTable x = new CrdtTable();
        Due.is("none to learn", 0, x.learn(0, 1));
        x.add(0, 0);
        x.add(0, 1);
        x.add(1, 2);
        Due.is("two", 2, x.learn(1, 0));
        Due.is("two, again", 0, x.learn(1, 0));
        Due.is("one of three", 1, x.learn(0, 1));
        x.learn(2, 0);
        Due.is("three, from another", 0, x.learn(2, 1));
        for (int action = 3; action < MOST; action++) {
            x.add(2, 0);
        }
        Due.is("57 of 60", MOST - 3, x.learn(0, 2));

        CrdtTable y = new CrdtTable();
        for (int action = 0; action < MOST; action++) {
            y.add(2, 0);
        }
        Due.is("60, the table being full", MOST, y.learn(0, 2));
        Due.is("60, at third hand", MOST, y.learn(1, 0));
        Due.is("all 60 again", 0, y.learn(2, 1));
    }

    private static void learnSomeAtMost() {
        Due.bySentence("Promise 8: learns at most n of the actions that 'from' knows and it doesn't");
        CrdtTable x = new CrdtTable();
        for (int action = 0; action < MOST; action++) {
            x.add(0, action % 8);
        }
        Due.is("1 of 60", 1, x.learnSome(1, 0, 1));
        Due.is("known", 1, x.known(1));
        Due.is("58 of 59", 58, x.learnSome(1, 0, 58));
        Due.is("known", 59, x.known(1));
        Due.is("2 of 1", 1, x.learnSome(1, 0, 2));
        Due.is("1 of none", 0, x.learnSome(1, 0, 1));
        Due.is("59 of 60", 59, x.learnSome(2, 0, 59));
        Due.is("the greatest n", 1, x.learnSome(2, 0, MAX));
        Due.is("known", MOST, x.known(2));

        CrdtTable y = new CrdtTable();
        y.add(0, 0);
        y.add(0, 1);
        y.learn(1, 0);
        y.add(0, 2);
        Due.is("those it knows don't count", 1, y.learnSome(1, 0, 1));
        Due.is("the one it didn't know", true, y.there(1, 2));
        Due.is("'from' learns nothing", 3, y.known(0));
    }

    private static void learnSomeSmallestNumbers() {
        Due.bySentence("Promise 8: those with the smallest numbers");
        CrdtTable x = new CrdtTable();
        x.add(2, 0);
        x.add(1, 1);
        x.add(2, 2);
        x.add(0, 3);
        x.add(1, 4);
        // Replica 0 comes to know them in another order than that of their numbers.
        x.learn(0, 1);
        x.learn(0, 2);
        x.add(0, 5);
        Due.is("replica 1's own rows", 2, x.rows(1));
        int rows = 2;
        for (int row : new int[] {0, 2, 3, 5}) {
            rows++;
            Due.is("one more", 1, x.learnSome(1, 0, 1));
            Due.is("row " + row + " is there", true, x.there(1, row));
            Due.is("and no other new one", rows, x.rows(1));
        }
        Due.is("two", 2, x.learnSome(2, 0, 2));
        Due.is("the two smallest that it doesn't know", true, x.there(2, 1) && x.there(2, 3));
        Due.is("and not the others", false, x.there(2, 4) || x.there(2, 5));
    }

    private static void learnSomeBelowZero() {
        Due.bySentence("Promise 8: (n below 0 counts as 0)");
        CrdtTable x = new CrdtTable();
        x.add(0, 0);
        for (int n : new int[] {MIN, MIN + 1, -60, -2, -1, 0}) {
            Due.is("n is " + n, 0, x.learnSome(1, 0, n));
            Due.is("nothing learned", 0, x.known(1));
        }
        Due.is("n is 1", 1, x.learnSome(1, 0, 1));
    }

    private static void learnSomeRefused() {
        Due.bySentence("Promise 8: BAD_REPLICA; SAME");
        CrdtTable x = new CrdtTable();
        x.add(0, 0);
        for (int n : new int[] {MIN, -1, 0, 1, MAX}) {
            for (int bad : BAD_REPLICAS) {
                Due.is("to " + bad + ", n " + n, CrdtTable.BAD_REPLICA, x.learnSome(bad, 0, n));
                Due.is("from " + bad + ", n " + n, CrdtTable.BAD_REPLICA, x.learnSome(1, bad, n));
                Due.is("both " + bad + ", n " + n, CrdtTable.BAD_REPLICA, x.learnSome(bad, bad, n));
            }
            for (int p = 0; p < 3; p++) {
                Due.is("itself, n " + n, CrdtTable.SAME, x.learnSome(p, p, n));
            }
        }
        Due.is("nothing learned", 0, x.known(1) + x.known(2));
    }

    private static void learnSomeAnswer() {
        Due.bySentence("Promise 8: Else answers how many it learned");
        CrdtTable x = new CrdtTable();
        Due.is("none to learn", 0, x.learnSome(0, 1, 5));
        x.add(0, 0);
        x.add(1, 1);
        x.add(0, 2);
        x.add(0, 3);
        Due.is("fewer than there are", 2, x.learnSome(1, 0, 2));
        Due.is("known", 3, x.known(1));
        Due.is("more than are left", 1, x.learnSome(1, 0, 5));
        Due.is("none left", 0, x.learnSome(1, 0, 5));
        Due.is("as many as there are", 4, x.learnSome(2, 1, 4));
        Due.is("the rest by learn", 1, x.learn(0, 2));
    }
}
