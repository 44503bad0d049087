/** The boundary cases of "What it is" and "Terms", a test for each sentence that names one. */
public final class TermsBoundariesTest {
    private static final int MIN = Integer.MIN_VALUE;
    private static final int MAX = Integer.MAX_VALUE;
    private static final int MOST = 60;
    private static final int MOST_CALLS = 512;

    public static void main(String[] args) {
        eightRows();
        threeReplicas();
        lastPromisedCall();
        laterCallsEnd();
        countWraps();
        numberedOverAllReplicas();
        atMostSixty();
        knowsDoneAndLearned();
        showsBySetAlone();
        someAddNotCancelled();
        cancelsWhatWasKnown();
        greatestStamp();
        equalStamps();
        noNameKnown();
        sumOfAllKnownCounts();
        lastLinkCounts();
        noLink();
        stampAtTheStart();
        stampGoesUpByOne();
        stampAfterLearning();
        staysKnownWhenDropped();
        referencesToRowsNotThere();
        refusalOrder();
        refusalOrderWhenFull();
        refusedCallsChangeNothing();
        refusedCallsChangeNothingWhenFull();
        answersTheNumber();
        looksChangeNothing();
        looksWithBadReplicaAndRow();
        Due.end();
    }

    private static void eightRows() {
        Due.bySentence("A table of eight ROWS (0 to 7)");
        CrdtTable x = new CrdtTable();
        Due.is("row below the least", CrdtTable.BAD_ROW, x.add(0, -1));
        for (int row = 0; row < 8; row++) {
            Due.is("row " + row, row, x.add(0, row));
        }
        Due.is("row above the greatest", CrdtTable.BAD_ROW, x.add(0, 8));
        Due.is("rows", 8, x.rows(0));
    }

    private static void threeReplicas() {
        Due.bySentence("three REPLICAS (0 to 2)");
        CrdtTable x = new CrdtTable();
        Due.is("replica below the least", CrdtTable.BAD_REPLICA, x.add(-1, 0));
        for (int replica = 0; replica < 3; replica++) {
            Due.is("replica " + replica, replica, x.add(replica, 0));
        }
        Due.is("replica above the greatest", CrdtTable.BAD_REPLICA, x.add(3, 0));
    }

    private static void lastPromisedCall() {
        Due.bySentence("An object is used for at most 512 calls after it has been made");
        CrdtTable refusing = new CrdtTable();
        for (int call = 1; call < MOST_CALLS; call++) {
            refusing.drop(0, 0);
        }
        Due.is("512th call, the first not refused", 0, refusing.add(0, 0));

        CrdtTable learning = new CrdtTable();
        for (int action = 0; action < MOST; action++) {
            learning.add(0, 7);
        }
        for (int call = MOST + 1; call < MOST_CALLS; call++) {
            Due.is("call " + call, 0, learning.learn(0, 1));
        }
        Due.is("512th call, the first that learns", MOST, learning.learn(1, 0));
    }

    // What these calls answer is free, but by rule 7 of LANGUAGE.md each of them must come back.
    private static void laterCallsEnd() {
        Due.bySentence("what later calls answer is free");
        int[] odd = {MIN, -2, -1, 0, 2, 3, 7, 8, 59, 60, 64, MAX};
        CrdtTable x = new CrdtTable();
        for (int a : odd) {
            for (int b : odd) {
                for (int c : odd) {
                    x.add(a, b);
                    x.name(a, b, c);
                    x.count(a, b, c);
                    x.link(a, b, c);
                    x.learnSome(a, b, c);
                    x.drop(a, b);
                    x.learn(a, b);
                    lookAt(x, a, b);
                }
            }
        }
    }

    private static void countWraps() {
        Due.bySentence("a COUNT (an int that wraps)");
        CrdtTable x = new CrdtTable();
        x.add(0, 0);
        x.count(0, 0, MAX);
        Due.is("greatest count", MAX, x.countOf(0, 0));
        x.count(0, 0, 1);
        Due.is("greatest and 1", MIN, x.countOf(0, 0));
        x.count(0, 0, -1);
        Due.is("smallest less 1", MAX, x.countOf(0, 0));
        x.count(0, 0, MIN);
        Due.is("greatest and smallest", -1, x.countOf(0, 0));
        x.add(0, 1);
        x.count(0, 1, MIN);
        x.count(0, 1, MIN);
        Due.is("smallest twice", 0, x.countOf(0, 1));
        x.count(0, 1, MAX);
        x.learn(1, 0);
        x.count(1, 1, MAX);
        x.learn(0, 1);
        Due.is("greatest twice, by two replicas", -2, x.countOf(0, 1));
    }

    private static void numberedOverAllReplicas() {
        Due.bySentence("numbered from 0 over all replicas");
        CrdtTable x = new CrdtTable();
        Due.is("first, at replica 2", 0, x.add(2, 3));
        Due.is("second, at replica 0", 1, x.add(0, 3));
        Due.is("third, at replica 1", 2, x.add(1, 3));
        Due.is("fourth, at replica 2", 3, x.name(2, 3, 1));
        x.learn(2, 0);
        x.learnSome(2, 1, 1);
        Due.is("learning takes no number", 4, x.drop(2, 3));
    }

    private static void atMostSixty() {
        Due.bySentence("at most 60");
        CrdtTable x = new CrdtTable();
        x.add(0, 0);
        x.add(1, 0);
        x.add(2, 0);
        for (int action = 3; action < MOST; action++) {
            Due.is("action " + action, action, x.count(action % 3, 0, 1));
        }
        for (int replica = 0; replica < 3; replica++) {
            Due.is("61st: add", CrdtTable.FULL, x.add(replica, 0));
            Due.is("61st: add of a row not there", CrdtTable.FULL, x.add(replica, 1));
            Due.is("61st: name", CrdtTable.FULL, x.name(replica, 0, 1));
            Due.is("61st: count", CrdtTable.FULL, x.count(replica, 0, 1));
            Due.is("61st: link", CrdtTable.FULL, x.link(replica, 0, 0));
            Due.is("61st: link to none", CrdtTable.FULL, x.link(replica, 0, -1));
            Due.is("61st: drop", CrdtTable.FULL, x.drop(replica, 0));
        }
    }

    private static void knowsDoneAndLearned() {
        Due.bySentence("a replica KNOWS a set of actions: those it did and those it learned");
        CrdtTable x = new CrdtTable();
        x.add(0, 0);
        x.add(1, 1);
        Due.is("what it did", 1, x.known(0));
        x.learn(0, 1);
        Due.is("what it learned", 2, x.known(0));
        x.learn(2, 1);
        x.learn(0, 2);
        Due.is("a set: learned twice, known once", 2, x.known(0));
        Due.is("who was learned from", 1, x.known(1));
    }

    private static void showsBySetAlone() {
        Due.bySentence("WHAT A REPLICA SHOWS depends on");
        int[][] orders = {{0, 1}, {1, 0}};
        for (int[] order : orders) {
            CrdtTable x = new CrdtTable();
            x.add(0, 0);
            x.learn(1, 0);
            x.name(1, 0, 11);
            x.link(1, 0, 0);
            x.name(0, 0, 10);
            x.link(0, 0, 5);
            x.drop(0, 0);
            x.add(1, 0);
            x.learn(2, order[0]);
            x.learn(2, order[1]);
            String when = "from " + order[0] + " first: ";
            Due.is(when + "there", true, x.there(2, 0));
            Due.is(when + "nameOf", 11, x.nameOf(2, 0));
            Due.is(when + "linkOf", 0, x.linkOf(2, 0));
            x.learn(0, 1);
            x.learn(1, 0);
            Due.is(when + "agree(2, 0)", true, x.agree(2, 0));
            Due.is(when + "agree(2, 1)", true, x.agree(2, 1));
        }
    }

    private static void someAddNotCancelled() {
        Due.bySentence("a row is there if some ADD of it is known that is not CANCELLED by a known DROP");
        CrdtTable x = new CrdtTable();
        Due.is("no ADD at all", false, x.there(0, 0));
        x.add(0, 0);
        Due.is("an ADD that is not known", false, x.there(1, 0));
        x.learn(1, 0);
        x.learn(2, 0);
        x.add(1, 0);
        x.drop(0, 0);
        Due.is("the only known ADD is cancelled", false, x.there(0, 0));
        Due.is("the DROP is not known", true, x.there(2, 0));
        x.learn(2, 0);
        Due.is("the DROP is known now", false, x.there(2, 0));
        x.learn(2, 1);
        Due.is("one of two ADDs is cancelled", true, x.there(2, 0));
        x.drop(1, 0);
        x.learn(2, 1);
        Due.is("a DROP that knew both", false, x.there(2, 0));

        CrdtTable y = new CrdtTable();
        y.add(0, 0);
        y.add(1, 0);
        y.drop(0, 0);
        y.drop(1, 0);
        y.learn(2, 0);
        y.learn(2, 1);
        Due.is("two ADDs, each cancelled by a DROP of its own", false, y.there(2, 0));
    }

    private static void cancelsWhatWasKnown() {
        Due.bySentence("cancels those ADDs of row r that the replica knew when it did the DROP");
        CrdtTable x = new CrdtTable();
        x.add(1, 3);
        x.add(0, 3);
        x.add(0, 3);
        x.add(0, 4);
        x.drop(0, 3);
        Due.is("both of its own", false, x.there(0, 3));
        Due.is("not those of another row", true, x.there(0, 4));
        x.learn(0, 1);
        Due.is("not one with a smaller number that it didn't know", true, x.there(0, 3));
        x.drop(0, 3);
        Due.is("a learned one", false, x.there(0, 3));
        x.add(0, 3);
        Due.is("not a later one of its own", true, x.there(0, 3));
        x.learn(1, 0);
        Due.is("the same at the replica that learns all", true, x.there(1, 3));
        x.drop(1, 3);
        Due.is("all known ones of two replicas", false, x.there(1, 3));
    }

    private static void greatestStamp() {
        Due.bySentence("the one with the greatest stamp");
        CrdtTable x = new CrdtTable();
        x.add(0, 0);
        x.add(0, 0);
        x.name(0, 0, 100);
        x.add(2, 0);
        x.name(2, 0, 200);
        x.learn(0, 2);
        Due.is("stamp 3 of replica 0 against the later stamp 2 of replica 2", 100, x.nameOf(0, 0));
        x.learn(2, 0);
        Due.is("and at replica 2", 100, x.nameOf(2, 0));
        x.name(2, 0, 201);
        Due.is("stamp 4", 201, x.nameOf(2, 0));
        x.learn(0, 2);
        Due.is("and at replica 0", 201, x.nameOf(0, 0));
        x.name(0, 0, -1);
        Due.is("a greater stamp with a smaller name", -1, x.nameOf(0, 0));
    }

    private static void equalStamps() {
        Due.bySentence("of equal stamps the greater replica");
        for (int p = 0; p < 3; p++) {
            for (int q = 0; q < 3; q++) {
                if (p != q) {
                    equalStamps(p, q);
                }
            }
        }
    }

    private static void equalStamps(int first, int second) {
        CrdtTable x = new CrdtTable();
        x.add(first, 0);
        x.add(second, 0);
        // The greater name goes to the smaller replica, so that it can't win by its value.
        x.name(first, 0, 9 - first);
        x.name(second, 0, 9 - second);
        x.learn(first, second);
        x.learn(second, first);
        int greater = Math.max(first, second);
        String who = "replica " + first + ", then replica " + second;
        Due.is(who + ": nameOf at the first", 9 - greater, x.nameOf(first, 0));
        Due.is(who + ": nameOf at the second", 9 - greater, x.nameOf(second, 0));
    }

    private static void noNameKnown() {
        Due.bySentence("0 if none is known");
        CrdtTable x = new CrdtTable();
        x.add(0, 0);
        x.learn(1, 0);
        x.name(1, 0, 5);
        Due.is("a name that is not known", 0, x.nameOf(0, 0));
        x.add(0, 1);
        x.name(0, 1, 6);
        Due.is("a name of another row", 0, x.nameOf(0, 0));
        x.count(0, 0, 7);
        x.link(0, 0, 1);
        Due.is("a count and a link are no names", 0, x.nameOf(0, 0));
    }

    private static void sumOfAllKnownCounts() {
        Due.bySentence("the row's count is the sum of all known COUNT actions of the row");
        CrdtTable x = new CrdtTable();
        x.add(0, 0);
        x.add(0, 1);
        Due.is("none", 0, x.countOf(0, 0));
        x.learn(1, 0);
        x.count(1, 0, 10);
        Due.is("one that is not known", 0, x.countOf(0, 0));
        x.count(0, 0, 1);
        x.count(0, 0, 1);
        Due.is("the same step twice", 2, x.countOf(0, 0));
        x.count(0, 1, 100);
        Due.is("one of another row", 2, x.countOf(0, 0));
        x.learn(2, 1);
        x.learn(0, 1);
        x.learn(0, 2);
        Due.is("learned on two ways, counted once", 12, x.countOf(0, 0));
    }

    private static void lastLinkCounts() {
        Due.bySentence("like the name, the last known LINK of row r counts");
        CrdtTable x = new CrdtTable();
        for (int row = 0; row < 4; row++) {
            x.add(0, row);
        }
        x.learn(1, 0);
        x.learn(2, 0);
        x.link(2, 0, 1);
        x.link(1, 0, 2);
        x.link(0, 0, 3);
        x.learn(0, 1);
        Due.is("equal stamps of 0 and 1", 2, x.linkOf(0, 0));
        x.learn(0, 2);
        Due.is("equal stamps of all", 1, x.linkOf(0, 0));
        x.link(0, 0, 0);
        x.learn(2, 0);
        Due.is("a greater stamp of a smaller replica", 0, x.linkOf(2, 0));
        x.link(1, 0, 3);
        x.learn(2, 1);
        Due.is("a later number with an equal stamp of a greater replica", 3, x.linkOf(2, 0));
        x.link(2, 0, 7);
        Due.is("the last refers to a row not there, and no earlier one steps in", -1, x.linkOf(2, 0));
        x.link(2, 0, 1);
        x.link(2, 0, -1);
        Due.is("the last refers to none, and no earlier one steps in", -1, x.linkOf(2, 0));
    }

    private static void noLink() {
        Due.bySentence("none: it refers to none (-1)");
        CrdtTable x = new CrdtTable();
        for (int row = 0; row < 8; row++) {
            x.add(0, row);
        }
        for (int row = 0; row < 8; row++) {
            Due.is("row " + row + ", all rows there", -1, x.linkOf(0, row));
        }
        x.learn(1, 0);
        x.link(1, 0, 1);
        Due.is("a link that is not known", -1, x.linkOf(0, 0));
        x.link(0, 1, 2);
        Due.is("a link of another row", -1, x.linkOf(0, 0));
        x.name(0, 0, 3);
        x.count(0, 0, 3);
        Due.is("a name and a count are no links", -1, x.linkOf(0, 0));
    }

    private static void stampAtTheStart() {
        Due.bySentence("A replica's STAMP is 0 at the start");
        for (int low = 0; low < 2; low++) {
            for (int high = low + 1; high < 3; high++) {
                String who = "replicas " + low + " and " + high;
                Due.is(who + ", 2 actions each", high, lastName(low, 2, high, 2));
                Due.is(who + ", 3 actions and 2", low, lastName(low, 3, high, 2));
            }
        }
    }

    /** Each replica does its actions alone, the last being a name that is its own number. */
    private static int lastName(int p, int actionsOfP, int q, int actionsOfQ) {
        CrdtTable x = new CrdtTable();
        for (int action = 1; action < actionsOfP; action++) {
            x.add(p, 0);
        }
        x.name(p, 0, p);
        for (int action = 1; action < actionsOfQ; action++) {
            x.add(q, 0);
        }
        x.name(q, 0, q);
        x.learn(p, q);
        return x.nameOf(p, 0);
    }

    private static void stampGoesUpByOne() {
        Due.bySentence("an action's stamp is the replica's stamp after it went up by 1");
        CrdtTable x = new CrdtTable();
        x.add(2, 0);
        x.name(2, 0, 20);
        x.learn(0, 2);
        x.name(0, 0, 1);
        Due.is("after it went up: one more than what was learned", 1, x.nameOf(0, 0));
        x.learn(2, 0);
        Due.is("and at replica 2", 1, x.nameOf(2, 0));

        CrdtTable y = new CrdtTable();
        y.add(0, 0);
        y.add(0, 1);
        y.name(0, 0, 1);
        y.count(0, 0, 1);
        y.link(0, 0, 1);
        y.drop(0, 1);
        y.name(0, 0, 2);
        y.add(1, 0);
        for (int stamp = 2; stamp <= 6; stamp++) {
            y.name(1, 0, 10);
        }
        y.learn(0, 1);
        Due.is("each kind goes up by 1: 7 against 6", 2, y.nameOf(0, 0));
        y.name(1, 0, 11);
        y.learn(0, 1);
        Due.is("each kind goes up by 1: 7 against 7", 11, y.nameOf(0, 0));
        y.name(0, 0, 3);
        y.learn(1, 0);
        Due.is("8 against 7", 3, y.nameOf(1, 0));
    }

    private static void stampAfterLearning() {
        Due.bySentence("its stamp becomes at least that action's");
        for (int kind = 0; kind < 5; kind++) {
            stampRaised(kind);
        }
        stampNotLowered();
        stampOfTheLearnedAlone();
        stampOfTheTeacher();
    }

    // Replica 0 learns stamps up to 4, that of one kind of action each time, so its name has stamp 5:
    // replica 1's name has stamp 4, and replica 2's has stamp 5.
    private static void stampRaised(int kind) {
        CrdtTable x = new CrdtTable();
        x.add(2, 1);
        x.add(2, 0);
        x.name(2, 0, 20);
        switch (kind) {
            case 0 -> x.add(2, 2);
            case 1 -> x.drop(2, 1);
            case 2 -> x.name(2, 1, 21);
            case 3 -> x.count(2, 1, 1);
            default -> x.link(2, 1, 0);
        }
        x.learn(0, 2);
        x.name(0, 0, 5);
        x.name(2, 0, 22);
        for (int stamp = 1; stamp < 4; stamp++) {
            x.add(1, 0);
        }
        x.name(1, 0, 10);
        x.learn(0, 1);
        Due.is("raised by kind " + kind + ": 5 against replica 1's 4", 5, x.nameOf(0, 0));
        x.learn(0, 2);
        Due.is("and no further: of two stamps 5 that of 2", 22, x.nameOf(0, 0));
    }

    private static void stampNotLowered() {
        CrdtTable x = new CrdtTable();
        x.add(0, 0);
        x.name(0, 0, 1);
        x.name(0, 0, 2);
        x.add(2, 1);
        x.learn(0, 2);
        x.name(0, 0, 3);
        Due.is("a smaller stamp doesn't lower it", 3, x.nameOf(0, 0));
        x.add(1, 0);
        x.name(1, 0, 10);
        x.name(1, 0, 11);
        x.learn(0, 1);
        Due.is("nor raise it: 4 against 3", 3, x.nameOf(0, 0));
        x.name(1, 0, 12);
        x.learn(0, 1);
        Due.is("of two stamps 4 that of 1", 12, x.nameOf(0, 0));
        x.name(0, 0, 4);
        x.learn(1, 0);
        Due.is("an equal stamp leaves it: 5 against 4", 4, x.nameOf(1, 0));
    }

    private static void stampOfTheLearnedAlone() {
        CrdtTable x = new CrdtTable();
        x.add(2, 0);
        x.name(2, 0, 20);
        x.name(2, 0, 21);
        x.learnSome(0, 2, 2);
        x.name(0, 0, 1);
        x.learn(0, 2);
        Due.is("not learned, so not raised: of two stamps 3 that of 2", 21, x.nameOf(0, 0));

        CrdtTable y = new CrdtTable();
        y.add(1, 0);
        y.add(1, 1);
        y.name(1, 0, 10);
        y.add(2, 7);
        y.learn(2, 1);
        y.learnSome(0, 2, 4);
        y.name(0, 0, 1);
        Due.is("the last learned has stamp 1, the greatest is 3: 4 against 3", 1, y.nameOf(0, 0));
        y.name(1, 0, 11);
        y.learn(0, 1);
        Due.is("of two stamps 4 that of 1", 11, y.nameOf(0, 0));
    }

    private static void stampOfTheTeacher() {
        CrdtTable x = new CrdtTable();
        x.add(2, 0);
        x.add(0, 0);
        x.add(0, 1);
        x.add(0, 2);
        x.learn(0, 2);
        x.name(2, 0, 20);
        x.name(0, 0, 5);
        x.learn(0, 2);
        Due.is("the learner's stamp alone moves: 4 against 2", 5, x.nameOf(0, 0));
    }

    private static void staysKnownWhenDropped() {
        Due.bySentence("Names, counts and links stay known when a row is dropped, and show again if it is added again");
        CrdtTable x = new CrdtTable();
        x.add(0, 0);
        x.add(0, 1);
        x.name(0, 0, 5);
        x.count(0, 0, 6);
        x.link(0, 0, 1);
        x.drop(0, 0);
        Due.is("dropped: known", 6, x.known(0));
        Due.is("dropped: nameOf", 0, x.nameOf(0, 0));
        Due.is("dropped: countOf", 0, x.countOf(0, 0));
        Due.is("dropped: linkOf", -1, x.linkOf(0, 0));
        x.learn(1, 0);
        x.add(0, 0);
        showsAgain("added again", x, 0);
        x.add(1, 0);
        showsAgain("learned when dropped, added by the learner", x, 1);
        x.learn(2, 0);
        x.drop(2, 0);
        x.learn(2, 1);
        showsAgain("added again by learning", x, 2);
    }

    private static void showsAgain(String when, CrdtTable x, int replica) {
        Due.is(when + ": nameOf", 5, x.nameOf(replica, 0));
        Due.is(when + ": countOf", 6, x.countOf(replica, 0));
        Due.is(when + ": linkOf", 1, x.linkOf(replica, 0));
    }

    private static void referencesToRowsNotThere() {
        Due.bySentence("REFERENCES TO ROWS THAT ARE NOT THERE show as -1");
        CrdtTable x = new CrdtTable();
        x.add(0, 0);
        x.link(0, 0, 7);
        Due.is("never added", -1, x.linkOf(0, 0));
        x.add(1, 7);
        Due.is("there at another replica alone", -1, x.linkOf(0, 0));
        x.learn(0, 1);
        Due.is("there by learning", 7, x.linkOf(0, 0));
        x.drop(0, 7);
        Due.is("dropped", -1, x.linkOf(0, 0));
        x.add(0, 7);
        Due.is("added again", 7, x.linkOf(0, 0));
        x.learn(1, 0);
        x.drop(1, 7);
        Due.is("dropped at another replica alone", 7, x.linkOf(0, 0));
        x.learn(0, 1);
        Due.is("dropped by learning", -1, x.linkOf(0, 0));
    }

    private static void refusalOrder() {
        Due.bySentence("replica not in 0 to 2: BAD_REPLICA; then a row not in 0 to 7: BAD_ROW; then, where said, ABSENT");
        CrdtTable x = new CrdtTable();
        x.add(0, 0);
        refusals(x);
        Due.is("no action came of it", 1, x.add(0, 0));
    }

    private static void refusalOrderWhenFull() {
        Due.bySentence("then FULL if there are 60 actions");
        CrdtTable x = new CrdtTable();
        for (int action = 0; action < MOST; action++) {
            x.add(0, 0);
        }
        refusals(x);
        Due.is("nothing but FULL: add", CrdtTable.FULL, x.add(1, 0));
        Due.is("nothing but FULL: drop", CrdtTable.FULL, x.drop(0, 0));
        Due.is("nothing but FULL: name", CrdtTable.FULL, x.name(0, 0, 1));
        Due.is("nothing but FULL: count", CrdtTable.FULL, x.count(0, 0, 1));
        Due.is("nothing but FULL: link", CrdtTable.FULL, x.link(0, 0, 1));
        Due.is("learnSome makes no action", 1, x.learnSome(1, 0, 1));
        Due.is("learn makes no action", MOST - 1, x.learn(1, 0));
    }

    // Row 0 is there at replica 0 alone, and row 1 nowhere; replica 1 knows nothing.
    private static void refusals(CrdtTable x) {
        int[] badReplicas = {MIN, -1, 3, MAX};
        int[] badRows = {MIN, -1, 8, MAX};
        for (int p : badReplicas) {
            for (int r : new int[] {-1, 0, 1, 8}) {
                refuseAll("replica " + p + ", row " + r, CrdtTable.BAD_REPLICA, x, p, r);
                Due.is("link to 8 at replica " + p, CrdtTable.BAD_REPLICA, x.link(p, r, 8));
            }
        }
        for (int r : badRows) {
            for (int p = 0; p < 3; p++) {
                refuseAll("replica " + p + ", row " + r, CrdtTable.BAD_ROW, x, p, r);
            }
        }
        for (int to : new int[] {MIN, -2, 8, MAX}) {
            Due.is("link of a row there to " + to, CrdtTable.BAD_ROW, x.link(0, 0, to));
            Due.is("link of a row not there to " + to, CrdtTable.BAD_ROW, x.link(1, 0, to));
        }
        Due.is("absent: drop", CrdtTable.ABSENT, x.drop(1, 0));
        Due.is("absent: name", CrdtTable.ABSENT, x.name(1, 0, 1));
        Due.is("absent: count", CrdtTable.ABSENT, x.count(1, 0, 1));
        Due.is("absent: link", CrdtTable.ABSENT, x.link(1, 0, 1));
        Due.is("absent: link to none", CrdtTable.ABSENT, x.link(0, 1, -1));
        Due.is("bad replica before same: learn", CrdtTable.BAD_REPLICA, x.learn(3, 3));
        Due.is("bad replica before same: learnSome", CrdtTable.BAD_REPLICA, x.learnSome(-1, -1, 1));
        Due.is("same: learn", CrdtTable.SAME, x.learn(0, 0));
        Due.is("same: learnSome", CrdtTable.SAME, x.learnSome(1, 1, 1));
    }

    private static void refuseAll(String with, int due, CrdtTable x, int replica, int row) {
        Due.is("add, " + with, due, x.add(replica, row));
        Due.is("drop, " + with, due, x.drop(replica, row));
        Due.is("name, " + with, due, x.name(replica, row, 1));
        Due.is("count, " + with, due, x.count(replica, row, 1));
        Due.is("link, " + with, due, x.link(replica, row, 0));
    }

    private static void refusedCallsChangeNothing() {
        Due.bySentence("A refused call changes nothing");
        for (int replica = 0; replica < 3; replica++) {
            int p = replica;
            int next = (p + 1) % 3;
            String at = " at replica " + p;
            unchanged("add of a bad row" + at, CrdtTable.BAD_ROW, x -> x.add(p, 8));
            unchanged("drop of a bad row" + at, CrdtTable.BAD_ROW, x -> x.drop(p, -1));
            unchanged("name of a bad row" + at, CrdtTable.BAD_ROW, x -> x.name(p, 8, 99));
            unchanged("count of a bad row" + at, CrdtTable.BAD_ROW, x -> x.count(p, -1, 99));
            unchanged("link of a bad row" + at, CrdtTable.BAD_ROW, x -> x.link(p, 8, 0));
            unchanged("link to a bad row" + at, CrdtTable.BAD_ROW, x -> x.link(p, 0, 8));
            unchanged("drop of an absent row" + at, CrdtTable.ABSENT, x -> x.drop(p, 5));
            unchanged("name of an absent row" + at, CrdtTable.ABSENT, x -> x.name(p, 5, 99));
            unchanged("count of an absent row" + at, CrdtTable.ABSENT, x -> x.count(p, 5, 99));
            unchanged("link of an absent row" + at, CrdtTable.ABSENT, x -> x.link(p, 5, 0));
            unchanged("learn of itself" + at, CrdtTable.SAME, x -> x.learn(p, p));
            unchanged("learnSome of itself" + at, CrdtTable.SAME, x -> x.learnSome(p, p, 9));
            unchanged("learn from a bad replica" + at, CrdtTable.BAD_REPLICA, x -> x.learn(p, 3));
            unchanged("learn to a bad replica" + at, CrdtTable.BAD_REPLICA, x -> x.learn(-1, p));
            unchanged("learnSome from a bad replica" + at, CrdtTable.BAD_REPLICA, x -> x.learnSome(p, -1, 9));
            unchanged("learnSome to a bad replica" + at, CrdtTable.BAD_REPLICA, x -> x.learnSome(3, p, 9));
            unchanged("learnSome of none" + at, 0, x -> x.learnSome(p, next, -1));
        }
        for (int bad : new int[] {-1, 3}) {
            String at = " at replica " + bad;
            unchanged("add" + at, CrdtTable.BAD_REPLICA, x -> x.add(bad, 5));
            unchanged("drop" + at, CrdtTable.BAD_REPLICA, x -> x.drop(bad, 0));
            unchanged("name" + at, CrdtTable.BAD_REPLICA, x -> x.name(bad, 0, 99));
            unchanged("count" + at, CrdtTable.BAD_REPLICA, x -> x.count(bad, 0, 99));
            unchanged("link" + at, CrdtTable.BAD_REPLICA, x -> x.link(bad, 0, 1));
        }
    }

    private interface Call {
        int on(CrdtTable x);
    }

    private static void unchanged(String what, int due, Call call) {
        Twins.stayAlike(what, Twins::begin, x -> Due.is(what, due, call.on(x)));
    }

    private static void refusedCallsChangeNothingWhenFull() {
        Due.bySentence("A refused call changes nothing");
        unchangedWhenFull("add", x -> x.add(0, 5));
        unchangedWhenFull("add of a row that is there", x -> x.add(1, 0));
        unchangedWhenFull("drop", x -> x.drop(0, 0));
        unchangedWhenFull("name", x -> x.name(2, 0, 99));
        unchangedWhenFull("count", x -> x.count(0, 0, 99));
        unchangedWhenFull("link", x -> x.link(1, 1, 1));
    }

    private static void unchangedWhenFull(String what, Call call) {
        String when = "full table: " + what;
        Twins.stayAlike(when, Twins::beginFull, x -> Due.is(when, CrdtTable.FULL, call.on(x)));
    }

    private static void answersTheNumber() {
        Due.bySentence("else they answer the action's number");
        CrdtTable x = new CrdtTable();
        Due.is("add", 0, x.add(1, 0));
        Due.is("refused between", CrdtTable.ABSENT, x.drop(1, 1));
        Due.is("name", 1, x.name(1, 0, 50));
        Due.is("refused between", CrdtTable.BAD_ROW, x.count(1, 8, 1));
        Due.is("count", 2, x.count(1, 0, 50));
        Due.is("refused between", CrdtTable.SAME, x.learn(1, 1));
        Due.is("link", 3, x.link(1, 0, 5));
        Due.is("refused between", CrdtTable.BAD_REPLICA, x.link(3, 0, 5));
        Due.is("drop", 4, x.drop(1, 0));
    }

    private static void looksChangeNothing() {
        Due.bySentence("The calls below change nothing");
        // A look at each replica by itself: a stamp that moves at all of them alike would not be seen.
        for (int replica : new int[] {-1, 0, 1, 2, 3}) {
            for (int row : new int[] {-1, 0, 5, 8}) {
                lookUnchanged(replica, row);
            }
        }
        Twins.stayAlike("looks at a full table", Twins::beginFull, x -> lookAt(x, 0, 1));
    }

    private static void lookUnchanged(int p, int r) {
        String at = "(" + p + ", " + r + ")";
        Twins.stayAlike("there" + at, Twins::begin, x -> x.there(p, r));
        Twins.stayAlike("nameOf" + at, Twins::begin, x -> x.nameOf(p, r));
        Twins.stayAlike("countOf" + at, Twins::begin, x -> x.countOf(p, r));
        Twins.stayAlike("linkOf" + at, Twins::begin, x -> x.linkOf(p, r));
        Twins.stayAlike("rows(" + p + ")", Twins::begin, x -> x.rows(p));
        Twins.stayAlike("sum(" + p + ")", Twins::begin, x -> x.sum(p));
        Twins.stayAlike("known(" + p + ")", Twins::begin, x -> x.known(p));
        for (int other = 0; other < 3; other++) {
            int q = other;
            Twins.stayAlike("agree(" + p + ", " + q + ")", Twins::begin, x -> x.agree(p, q));
            Twins.stayAlike("agree(" + q + ", " + p + ")", Twins::begin, x -> x.agree(q, p));
        }
    }

    private static void lookAt(CrdtTable x, int a, int b) {
        x.there(a, b);
        x.nameOf(a, b);
        x.countOf(a, b);
        x.linkOf(a, b);
        x.rows(a);
        x.sum(a);
        x.known(a);
        x.agree(a, b);
    }

    private static void looksWithBadReplicaAndRow() {
        Due.bySentence("BAD_REPLICA first, then BAD_ROW");
        CrdtTable x = new CrdtTable();
        x.add(0, 0);
        x.name(0, 0, 4);
        x.count(0, 0, 4);
        x.link(0, 0, 0);
        for (int replica : new int[] {MIN, -1, 3, MAX}) {
            for (int row : new int[] {MIN, -1, 8, MAX}) {
                String at = "(" + replica + ", " + row + ")";
                Due.is("there" + at, false, x.there(replica, row));
                Due.is("nameOf" + at, 0, x.nameOf(replica, row));
                Due.is("countOf" + at, 0, x.countOf(replica, row));
                Due.is("linkOf" + at, -1, x.linkOf(replica, row));
            }
            Due.is("rows(" + replica + ")", CrdtTable.BAD_REPLICA, x.rows(replica));
            Due.is("sum(" + replica + ")", CrdtTable.BAD_REPLICA, x.sum(replica));
            Due.is("known(" + replica + ")", CrdtTable.BAD_REPLICA, x.known(replica));
            Due.is("agree(" + replica + ", 0)", false, x.agree(replica, 0));
        }
    }
}
