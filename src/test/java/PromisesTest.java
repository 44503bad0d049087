/** Each promise with ordinary inputs, the edges that the document names, and wrong inputs. */
public final class PromisesTest {
    private static final int[] BAD_REPLICAS = {-1, 3, 4, Integer.MIN_VALUE, Integer.MAX_VALUE};
    private static final int[] BAD_ROWS = {-1, 8, 9, Integer.MIN_VALUE, Integer.MAX_VALUE};
    private static final int MOST = 60;

    public static void main(String[] args) {
        promise1NewObject();
        promise2Add();
        promise2AddAtTheSameTimeAsDrop();
        promise3Drop();
        promise3DropCancelsOnlyWhatIsKnown();
        promise4Name();
        promise4LastName();
        promise4StampOfTheLearner();
        promise4StampsOfAllKinds();
        promise5Count();
        promise6Link();
        promise6LastLink();
        promise7Learn();
        promise7LearnLowersNoStamp();
        promise7LearnIsNeverFull();
        promise8LearnSome();
        promise8StampOfWhatWasLearned();
        promise9There();
        promise10NameOf();
        promise11CountOf();
        promise12LinkOf();
        promise13Rows();
        promise14Sum();
        promise15Known();
        promise16Agree();
        promise16AgreeOnWhatShows();
        refusalsInOrder();
        refusalsChangeNothing();
        fullAtSixty();
        objectsStandAlone();
        Due.end();
    }

    private static void promise1NewObject() {
        CrdtTable x = new CrdtTable();
        for (int replica = 0; replica < 3; replica++) {
            Due.is("1: known", 0, x.known(replica));
            Due.is("1: rows", 0, x.rows(replica));
            Due.is("1: sum", 0, x.sum(replica));
            for (int row = 0; row < 8; row++) {
                Due.is("1: there", false, x.there(replica, row));
                Due.is("1: nameOf", 0, x.nameOf(replica, row));
                Due.is("1: countOf", 0, x.countOf(replica, row));
                Due.is("1: linkOf", -1, x.linkOf(replica, row));
            }
            for (int other = 0; other < 3; other++) {
                Due.is("1: agree", true, x.agree(replica, other));
                Due.is("1: learn", replica == other ? CrdtTable.SAME : 0, x.learn(replica, other));
            }
        }
        Due.is("1: first number", 0, x.add(2, 7));
    }

    private static void promise2Add() {
        CrdtTable x = new CrdtTable();
        Due.is("2: add row 0", 0, x.add(0, 0));
        Due.is("2: add row 7", 1, x.add(2, 7));
        Due.is("2: add a row that is there", 2, x.add(0, 0));
        Due.is("2: known after both adds", 2, x.known(0));
        Due.is("2: there", true, x.there(0, 0));
        Due.is("2: another replica doesn't see it", false, x.there(1, 0));
        Due.is("2: another row", false, x.there(0, 7));
        Due.is("2: rows", 1, x.rows(0));
        for (int bad : BAD_REPLICAS) {
            Due.is("2: bad replica", CrdtTable.BAD_REPLICA, x.add(bad, 0));
        }
        for (int bad : BAD_ROWS) {
            Due.is("2: bad row", CrdtTable.BAD_ROW, x.add(0, bad));
        }
        Due.is("2: number after refusals", 3, x.add(1, 1));
    }

    private static void promise2AddAtTheSameTimeAsDrop() {
        CrdtTable x = new CrdtTable();
        x.add(0, 3);
        x.learn(1, 0);
        x.add(1, 3);
        x.drop(0, 3);
        Due.is("2: dropped here", false, x.there(0, 3));
        x.learn(0, 1);
        Due.is("2: the add that the drop didn't know stays", true, x.there(0, 3));
        x.learn(1, 0);
        Due.is("2: at the other one too", true, x.there(1, 3));
        Due.is("2: dropped again", 3, x.drop(0, 3));
        Due.is("2: gone now", false, x.there(0, 3));
        Due.is("2: still there where the drop isn't known", true, x.there(1, 3));
    }

    private static void promise3Drop() {
        CrdtTable x = new CrdtTable();
        Due.is("3: never added", CrdtTable.ABSENT, x.drop(0, 5));
        x.add(0, 5);
        x.add(0, 5);
        x.add(0, 6);
        Due.is("3: absent at the other replica", CrdtTable.ABSENT, x.drop(1, 5));
        Due.is("3: drop cancels both adds", 3, x.drop(0, 5));
        Due.is("3: not there", false, x.there(0, 5));
        Due.is("3: other row stays", true, x.there(0, 6));
        Due.is("3: dropped already", CrdtTable.ABSENT, x.drop(0, 5));
        Due.is("3: known", 4, x.known(0));
        Due.is("3: added again", 4, x.add(0, 5));
        Due.is("3: there again", true, x.there(0, 5));
        for (int bad : BAD_REPLICAS) {
            Due.is("3: bad replica", CrdtTable.BAD_REPLICA, x.drop(bad, 5));
        }
        for (int bad : BAD_ROWS) {
            Due.is("3: bad row", CrdtTable.BAD_ROW, x.drop(0, bad));
        }
    }

    private static void promise3DropCancelsOnlyWhatIsKnown() {
        CrdtTable x = new CrdtTable();
        x.add(0, 1);
        x.add(1, 1);
        x.drop(1, 1);
        x.learn(2, 1);
        Due.is("3: only the dropped add is known", false, x.there(2, 1));
        x.learn(2, 0);
        Due.is("3: an add with a smaller number than the drop", true, x.there(2, 1));
        x.learn(0, 2);
        Due.is("3: a learned drop cancels no add of the learner", true, x.there(0, 1));
        x.learn(1, 0);
        Due.is("3: all show it", true, x.there(1, 1));
    }

    private static void promise4Name() {
        CrdtTable x = new CrdtTable();
        Due.is("4: not there", CrdtTable.ABSENT, x.name(0, 2, 9));
        x.add(0, 2);
        Due.is("4: not there at 1", CrdtTable.ABSENT, x.name(1, 2, 9));
        Due.is("4: name", 1, x.name(0, 2, 9));
        Due.is("4: nameOf", 9, x.nameOf(0, 2));
        Due.is("4: smallest name", 2, x.name(0, 2, Integer.MIN_VALUE));
        Due.is("4: nameOf smallest", Integer.MIN_VALUE, x.nameOf(0, 2));
        Due.is("4: greatest name", 3, x.name(0, 2, Integer.MAX_VALUE));
        Due.is("4: nameOf greatest", Integer.MAX_VALUE, x.nameOf(0, 2));
        Due.is("4: name 0", 4, x.name(0, 2, 0));
        Due.is("4: nameOf 0", 0, x.nameOf(0, 2));
        Due.is("4: a name is an action", 5, x.known(0));
        for (int bad : BAD_REPLICAS) {
            Due.is("4: bad replica", CrdtTable.BAD_REPLICA, x.name(bad, 2, 1));
        }
        for (int bad : BAD_ROWS) {
            Due.is("4: bad row", CrdtTable.BAD_ROW, x.name(0, bad, 1));
        }
    }

    private static void promise4LastName() {
        CrdtTable x = new CrdtTable();
        x.add(0, 0);
        x.learn(1, 0);
        x.learn(2, 0);
        x.name(2, 0, 22);
        x.name(1, 0, 11);
        x.name(0, 0, 5);
        x.learn(0, 1);
        Due.is("4: of equal stamps the greater replica", 11, x.nameOf(0, 0));
        x.learn(0, 2);
        Due.is("4: replica 2 before 1 and 0", 22, x.nameOf(0, 0));
        x.learn(2, 0);
        Due.is("4: the same at 2", 22, x.nameOf(2, 0));
        x.name(0, 0, 6);
        x.learn(2, 0);
        Due.is("4: the greater stamp of the smaller replica", 6, x.nameOf(2, 0));
    }

    private static void promise4StampOfTheLearner() {
        CrdtTable x = new CrdtTable();
        x.add(0, 0);
        x.name(0, 0, 1);
        x.name(0, 0, 2);
        x.add(2, 0);
        x.name(2, 0, 77);
        x.learn(0, 2);
        Due.is("4: a later number with a smaller stamp is not last", 2, x.nameOf(0, 0));
        x.learn(2, 0);
        Due.is("4: nor at the replica that did it", 2, x.nameOf(2, 0));
        x.name(2, 0, 78);
        x.learn(0, 2);
        Due.is("4: the stamp went up by learning", 78, x.nameOf(0, 0));
    }

    private static void promise4StampsOfAllKinds() {
        CrdtTable x = new CrdtTable();
        x.add(0, 0);
        x.count(0, 0, 1);
        x.link(0, 0, 0);
        x.add(0, 1);
        x.drop(0, 1);
        x.name(0, 0, 50);
        x.add(1, 0);
        x.name(1, 0, 2);
        x.name(1, 0, 3);
        x.name(1, 0, 4);
        x.name(1, 0, 5);
        x.learn(0, 1);
        Due.is("4: stamp 6 before stamp 5", 50, x.nameOf(0, 0));
        x.name(1, 0, 6);
        x.learn(0, 1);
        Due.is("4: of two stamps 6 that of replica 1", 6, x.nameOf(0, 0));
    }

    private static void promise5Count() {
        CrdtTable x = new CrdtTable();
        Due.is("5: not there", CrdtTable.ABSENT, x.count(0, 4, 1));
        x.add(0, 4);
        Due.is("5: count", 1, x.count(0, 4, 10));
        Due.is("5: count down", 2, x.count(0, 4, -3));
        Due.is("5: count by 0", 3, x.count(0, 4, 0));
        Due.is("5: countOf", 7, x.countOf(0, 4));
        Due.is("5: known", 4, x.known(0));
        Due.is("5: not there at 2", CrdtTable.ABSENT, x.count(2, 4, 1));
        x.learn(1, 0);
        x.count(1, 4, 100);
        x.count(0, 4, 1000);
        x.learn(0, 1);
        Due.is("5: counts of both replicas", 1107, x.countOf(0, 4));
        Due.is("5: greatest", 6, x.count(0, 4, Integer.MAX_VALUE));
        Due.is("5: the count wraps", Integer.MIN_VALUE + 1106, x.countOf(0, 4));
        for (int bad : BAD_REPLICAS) {
            Due.is("5: bad replica", CrdtTable.BAD_REPLICA, x.count(bad, 4, 1));
        }
        for (int bad : BAD_ROWS) {
            Due.is("5: bad row", CrdtTable.BAD_ROW, x.count(0, bad, 1));
        }
    }

    private static void promise6Link() {
        CrdtTable x = new CrdtTable();
        Due.is("6: not there", CrdtTable.ABSENT, x.link(0, 1, 1));
        x.add(0, 1);
        Due.is("6: not there at 1", CrdtTable.ABSENT, x.link(1, 1, 1));
        Due.is("6: to itself", 1, x.link(0, 1, 1));
        Due.is("6: refers to itself", 1, x.linkOf(0, 1));
        Due.is("6: to a row that is not there", 2, x.link(0, 1, 7));
        Due.is("6: shows none", -1, x.linkOf(0, 1));
        x.add(0, 7);
        Due.is("6: shows when it is there", 7, x.linkOf(0, 1));
        x.add(0, 0);
        Due.is("6: to row 0", 5, x.link(0, 1, 0));
        Due.is("6: refers to 0", 0, x.linkOf(0, 1));
        Due.is("6: to none", 6, x.link(0, 1, -1));
        Due.is("6: refers to none", -1, x.linkOf(0, 1));
        for (int bad : BAD_REPLICAS) {
            Due.is("6: bad replica", CrdtTable.BAD_REPLICA, x.link(bad, 1, 1));
        }
        for (int bad : BAD_ROWS) {
            Due.is("6: bad row", CrdtTable.BAD_ROW, x.link(0, bad, 1));
        }
        for (int bad : new int[] {-2, 8, 9, Integer.MIN_VALUE, Integer.MAX_VALUE}) {
            Due.is("6: bad target", CrdtTable.BAD_ROW, x.link(0, 1, bad));
            Due.is("6: bad target before absent", CrdtTable.BAD_ROW, x.link(0, 5, bad));
            Due.is("6: bad replica before bad target", CrdtTable.BAD_REPLICA, x.link(3, 5, bad));
        }
        Due.is("6: nothing changed", 7, x.known(0));
    }

    private static void promise6LastLink() {
        CrdtTable x = new CrdtTable();
        x.add(0, 0);
        x.add(0, 1);
        x.add(0, 2);
        x.learn(1, 0);
        x.link(1, 0, 1);
        x.link(0, 0, 2);
        x.learn(0, 1);
        x.learn(1, 0);
        Due.is("6: of equal stamps the greater replica", 1, x.linkOf(0, 0));
        Due.is("6: at both", 1, x.linkOf(1, 0));
        x.link(0, 0, -1);
        x.learn(1, 0);
        Due.is("6: a last link to none counts", -1, x.linkOf(1, 0));
        x.name(1, 0, 2);
        Due.is("6: a name is no link", -1, x.linkOf(1, 0));
        x.link(1, 1, 2);
        Due.is("6: another row's link", -1, x.linkOf(1, 0));
    }

    private static void promise7Learn() {
        CrdtTable x = new CrdtTable();
        x.add(0, 0);
        x.name(0, 0, 4);
        x.add(1, 1);
        Due.is("7: two are new", 2, x.learn(1, 0));
        Due.is("7: known at 1", 3, x.known(1));
        Due.is("7: from learns nothing", 2, x.known(0));
        Due.is("7: learned before", 0, x.learn(1, 0));
        Due.is("7: through another replica", 3, x.learn(2, 1));
        Due.is("7: name came along", 4, x.nameOf(2, 0));
        Due.is("7: only what is new", 1, x.learn(0, 2));
        Due.is("7: learning is no action", 3, x.add(0, 2));
        for (int replica = 0; replica < 3; replica++) {
            Due.is("7: same", CrdtTable.SAME, x.learn(replica, replica));
        }
        for (int bad : BAD_REPLICAS) {
            Due.is("7: bad to", CrdtTable.BAD_REPLICA, x.learn(bad, 0));
            Due.is("7: bad from", CrdtTable.BAD_REPLICA, x.learn(0, bad));
            Due.is("7: bad before same", CrdtTable.BAD_REPLICA, x.learn(bad, bad));
        }
        Due.is("7: refused calls taught nothing", 4, x.known(0));
    }

    private static void promise7LearnLowersNoStamp() {
        CrdtTable x = new CrdtTable();
        x.add(0, 0);
        x.name(0, 0, 1);
        x.name(0, 0, 2);
        x.add(2, 0);
        x.learn(0, 2);
        x.name(0, 0, 3);
        Due.is("7: stamp 4 after learning stamp 1", 3, x.nameOf(0, 0));
        x.learn(1, 0);
        x.name(1, 0, 10);
        x.learn(0, 1);
        Due.is("7: stamp 5 at the replica that learned", 10, x.nameOf(0, 0));
    }

    private static void promise7LearnIsNeverFull() {
        CrdtTable x = new CrdtTable();
        for (int action = 0; action < MOST; action++) {
            x.add(0, action % 8);
        }
        Due.is("7: learn all 60", MOST, x.learn(1, 0));
        Due.is("7: known", MOST, x.known(1));
        Due.is("8: learn some of 60", 59, x.learnSome(2, 0, 59));
        Due.is("8: the last one", 1, x.learnSome(2, 1, Integer.MAX_VALUE));
        Due.is("7: all agree", true, x.agree(1, 2));
    }

    private static void promise8LearnSome() {
        CrdtTable x = new CrdtTable();
        x.add(0, 0);
        x.add(1, 5);
        x.add(0, 1);
        x.add(0, 2);
        x.add(0, 3);
        Due.is("8: n below 0", 0, x.learnSome(1, 0, -1));
        Due.is("8: smallest n", 0, x.learnSome(1, 0, Integer.MIN_VALUE));
        Due.is("8: n is 0", 0, x.learnSome(1, 0, 0));
        Due.is("8: nothing learned", 1, x.known(1));
        Due.is("8: two", 2, x.learnSome(1, 0, 2));
        Due.is("8: smallest numbers first", true, x.there(1, 0) && x.there(1, 1));
        Due.is("8: not the greater ones", false, x.there(1, 2) || x.there(1, 3));
        Due.is("8: one more", 1, x.learnSome(1, 0, 1));
        Due.is("8: the next number", true, x.there(1, 2));
        Due.is("8: fewer than n are left", 1, x.learnSome(1, 0, 2));
        Due.is("8: none is left", 0, x.learnSome(1, 0, Integer.MAX_VALUE));
        Due.is("8: from learns nothing", 4, x.known(0));
        Due.is("8: known ones don't count", 1, x.learnSome(0, 1, 1));
        Due.is("8: the one it didn't know", true, x.there(0, 5));
        Due.is("8: same", CrdtTable.SAME, x.learnSome(2, 2, 1));
        Due.is("8: same with n below 0", CrdtTable.SAME, x.learnSome(2, 2, -1));
        for (int bad : BAD_REPLICAS) {
            Due.is("8: bad to", CrdtTable.BAD_REPLICA, x.learnSome(bad, 0, 1));
            Due.is("8: bad from", CrdtTable.BAD_REPLICA, x.learnSome(2, bad, 1));
            Due.is("8: bad before same", CrdtTable.BAD_REPLICA, x.learnSome(bad, bad, 1));
        }
        Due.is("8: refused calls taught nothing", 0, x.known(2));
    }

    private static void promise8StampOfWhatWasLearned() {
        CrdtTable x = new CrdtTable();
        x.add(2, 0);
        x.name(2, 0, 20);
        x.name(2, 0, 21);
        x.learnSome(0, 2, 2);
        x.name(0, 0, 1);
        Due.is("8: stamp 3 comes after the learned stamp 2", 1, x.nameOf(0, 0));
        x.learn(0, 2);
        Due.is("8: of two stamps 3 that of replica 2", 21, x.nameOf(0, 0));
        x.name(0, 0, 2);
        Due.is("8: and then stamp 4", 2, x.nameOf(0, 0));
    }

    private static void promise9There() {
        CrdtTable x = new CrdtTable();
        for (int row = 0; row < 8; row++) {
            Due.is("9: before", false, x.there(1, row));
            x.add(1, row);
            Due.is("9: after", true, x.there(1, row));
        }
        for (int bad : BAD_REPLICAS) {
            Due.is("9: bad replica", false, x.there(bad, 0));
        }
        for (int bad : BAD_ROWS) {
            Due.is("9: bad row", false, x.there(1, bad));
        }
    }

    private static void promise10NameOf() {
        CrdtTable x = new CrdtTable();
        x.add(0, 3);
        Due.is("10: no name yet", 0, x.nameOf(0, 3));
        x.name(0, 3, -8);
        x.count(0, 3, 5);
        x.link(0, 3, 3);
        Due.is("10: name", -8, x.nameOf(0, 3));
        Due.is("10: another row", 0, x.nameOf(0, 2));
        Due.is("10: another replica", 0, x.nameOf(1, 3));
        x.drop(0, 3);
        Due.is("10: dropped", 0, x.nameOf(0, 3));
        x.add(0, 3);
        Due.is("10: shows again", -8, x.nameOf(0, 3));
        for (int bad : BAD_REPLICAS) {
            Due.is("10: bad replica", 0, x.nameOf(bad, 3));
        }
        for (int bad : BAD_ROWS) {
            Due.is("10: bad row", 0, x.nameOf(0, bad));
        }
    }

    private static void promise11CountOf() {
        CrdtTable x = new CrdtTable();
        x.add(0, 3);
        Due.is("11: no count yet", 0, x.countOf(0, 3));
        x.count(0, 3, 5);
        x.name(0, 3, 100);
        x.link(0, 3, 3);
        Due.is("11: count", 5, x.countOf(0, 3));
        Due.is("11: another row", 0, x.countOf(0, 2));
        Due.is("11: another replica", 0, x.countOf(1, 3));
        x.drop(0, 3);
        Due.is("11: dropped", 0, x.countOf(0, 3));
        x.add(0, 3);
        Due.is("11: shows again", 5, x.countOf(0, 3));
        x.count(0, 3, 2);
        Due.is("11: goes on", 7, x.countOf(0, 3));
        for (int bad : BAD_REPLICAS) {
            Due.is("11: bad replica", 0, x.countOf(bad, 3));
        }
        for (int bad : BAD_ROWS) {
            Due.is("11: bad row", 0, x.countOf(0, bad));
        }
    }

    private static void promise12LinkOf() {
        CrdtTable x = new CrdtTable();
        x.add(0, 3);
        x.add(0, 0);
        Due.is("12: no link yet, though row 0 is there", -1, x.linkOf(0, 3));
        x.link(0, 3, 0);
        Due.is("12: link", 0, x.linkOf(0, 3));
        Due.is("12: not the other way", -1, x.linkOf(0, 0));
        Due.is("12: another replica", -1, x.linkOf(1, 3));
        x.drop(0, 0);
        Due.is("12: target dropped", -1, x.linkOf(0, 3));
        x.add(0, 0);
        Due.is("12: target added again", 0, x.linkOf(0, 3));
        x.drop(0, 3);
        Due.is("12: source dropped", -1, x.linkOf(0, 3));
        x.add(0, 3);
        Due.is("12: source added again", 0, x.linkOf(0, 3));
        for (int bad : BAD_REPLICAS) {
            Due.is("12: bad replica", -1, x.linkOf(bad, 3));
        }
        for (int bad : BAD_ROWS) {
            Due.is("12: bad row", -1, x.linkOf(0, bad));
        }
    }

    private static void promise13Rows() {
        CrdtTable x = new CrdtTable();
        for (int row = 0; row < 8; row++) {
            x.add(2, row);
            Due.is("13: rows", row + 1, x.rows(2));
        }
        x.add(2, 0);
        Due.is("13: added twice, one row", 8, x.rows(2));
        x.drop(2, 0);
        Due.is("13: one dropped", 7, x.rows(2));
        Due.is("13: another replica", 0, x.rows(0));
        for (int bad : BAD_REPLICAS) {
            Due.is("13: bad replica", CrdtTable.BAD_REPLICA, x.rows(bad));
        }
    }

    private static void promise14Sum() {
        CrdtTable x = new CrdtTable();
        x.add(0, 0);
        x.add(0, 7);
        x.count(0, 0, 3);
        x.count(0, 7, -10);
        Due.is("14: sum", -7, x.sum(0));
        x.drop(0, 7);
        Due.is("14: without the dropped row", 3, x.sum(0));
        x.add(0, 7);
        Due.is("14: with it again", -7, x.sum(0));
        x.count(0, 0, Integer.MIN_VALUE);
        Due.is("14: the sum wraps", Integer.MIN_VALUE - 7, x.sum(0));
        Due.is("14: another replica", 0, x.sum(1));
        for (int bad : BAD_REPLICAS) {
            Due.is("14: bad replica", CrdtTable.BAD_REPLICA, x.sum(bad));
        }
    }

    private static void promise15Known() {
        CrdtTable x = new CrdtTable();
        x.add(0, 0);
        x.name(0, 0, 1);
        x.count(0, 0, 1);
        x.link(0, 0, 0);
        x.drop(0, 0);
        Due.is("15: all kinds", 5, x.known(0));
        x.add(1, 0);
        Due.is("15: its own alone", 1, x.known(1));
        x.learn(1, 0);
        Due.is("15: with the learned ones", 6, x.known(1));
        Due.is("15: none", 0, x.known(2));
        for (int bad : BAD_REPLICAS) {
            Due.is("15: bad replica", CrdtTable.BAD_REPLICA, x.known(bad));
        }
    }

    private static void promise16Agree() {
        CrdtTable x = new CrdtTable();
        x.add(0, 7);
        Due.is("16: a row is there at one", false, x.agree(0, 1));
        Due.is("16: the other way", false, x.agree(1, 0));
        Due.is("16: with itself", true, x.agree(0, 0));
        x.add(1, 7);
        Due.is("16: the same by other actions", true, x.agree(0, 1));
        x.name(0, 7, 4);
        Due.is("16: names differ", false, x.agree(0, 1));
        x.name(1, 7, 4);
        Due.is("16: same names", true, x.agree(0, 1));
        x.count(0, 7, 2);
        Due.is("16: counts differ", false, x.agree(0, 1));
        x.count(1, 7, 1);
        x.count(1, 7, 1);
        Due.is("16: same counts", true, x.agree(0, 1));
        x.link(0, 7, 7);
        Due.is("16: links differ", false, x.agree(0, 1));
        x.link(1, 7, 7);
        Due.is("16: same links", true, x.agree(1, 0));
        for (int bad : BAD_REPLICAS) {
            Due.is("16: bad a", false, x.agree(bad, 0));
            Due.is("16: bad b", false, x.agree(0, bad));
            Due.is("16: bad both", false, x.agree(bad, bad));
        }
    }

    private static void promise16AgreeOnWhatShows() {
        CrdtTable x = new CrdtTable();
        x.add(0, 0);
        x.add(1, 0);
        x.link(0, 0, 5);
        Due.is("16: a link to a row not there shows as none", true, x.agree(0, 1));
        x.add(0, 1);
        x.name(0, 1, 3);
        x.count(0, 1, 3);
        x.link(0, 1, 0);
        x.drop(0, 1);
        Due.is("16: what a dropped row had doesn't show", true, x.agree(0, 1));
        x.add(0, 5);
        x.add(1, 5);
        Due.is("16: the link shows now", false, x.agree(0, 1));
        x.drop(0, 5);
        x.drop(1, 5);
        x.add(1, 1);
        x.add(0, 1);
        Due.is("16: the row's old values show again", false, x.agree(0, 1));
        x.drop(0, 1);
        x.drop(1, 1);
        x.add(1, 2);
        x.add(0, 3);
        Due.is("16: as many rows, but others", false, x.agree(0, 1));
    }

    private static void refusalsInOrder() {
        CrdtTable x = new CrdtTable();
        for (int round = 0; round < 2; round++) {
            Due.is("replica before row: add", CrdtTable.BAD_REPLICA, x.add(3, 8));
            Due.is("replica before row: drop", CrdtTable.BAD_REPLICA, x.drop(3, 8));
            Due.is("replica before row: name", CrdtTable.BAD_REPLICA, x.name(3, 8, 0));
            Due.is("replica before row: count", CrdtTable.BAD_REPLICA, x.count(3, 8, 0));
            Due.is("replica before row: link", CrdtTable.BAD_REPLICA, x.link(3, 8, 8));
            Due.is("row before full: add", CrdtTable.BAD_ROW, x.add(0, 8));
            Due.is("row before full: drop", CrdtTable.BAD_ROW, x.drop(0, 8));
            Due.is("row before full: link", CrdtTable.BAD_ROW, x.link(0, 0, 8));
            Due.is("absent before full: drop", CrdtTable.ABSENT, x.drop(1, 0));
            Due.is("absent before full: name", CrdtTable.ABSENT, x.name(1, 0, 1));
            Due.is("absent before full: count", CrdtTable.ABSENT, x.count(1, 0, 1));
            Due.is("absent before full: link", CrdtTable.ABSENT, x.link(1, 0, 1));
            Due.is("same before full", CrdtTable.SAME, x.learn(1, 1));
            for (int action = 0; action < MOST; action++) {
                x.add(0, 0);
            }
        }
    }

    private static void refusalsChangeNothing() {
        CrdtTable x = new CrdtTable();
        x.add(0, 0);
        for (int time = 0; time < 5; time++) {
            x.add(0, 8);
            x.drop(0, 1);
            x.name(0, 1, 9);
            x.count(0, 1, 9);
            x.link(0, 1, 0);
            x.link(0, 0, 8);
            x.learn(0, 0);
            x.learnSome(0, 3, 1);
        }
        Due.is("refused: known", 1, x.known(0));
        x.add(1, 0);
        x.name(1, 0, 11);
        x.name(0, 0, 5);
        x.learn(0, 1);
        Due.is("refused: the stamp stays, so replica 1 is last", 11, x.nameOf(0, 0));
        x.add(0, 1);
        Due.is("refused: no name was kept", 0, x.nameOf(0, 1));
        Due.is("refused: no count was kept", 0, x.countOf(0, 1));
        Due.is("refused: no link was kept", -1, x.linkOf(0, 1));
    }

    private static void fullAtSixty() {
        CrdtTable x = new CrdtTable();
        x.add(0, 0);
        x.name(0, 0, 7);
        x.link(0, 0, 0);
        for (int action = 3; action < MOST; action++) {
            Due.is("full: not before 60", action, x.count(0, 0, 1));
        }
        Due.is("full: add", CrdtTable.FULL, x.add(0, 1));
        Due.is("full: add at another replica", CrdtTable.FULL, x.add(2, 0));
        Due.is("full: drop", CrdtTable.FULL, x.drop(0, 0));
        Due.is("full: name", CrdtTable.FULL, x.name(0, 0, 8));
        Due.is("full: count", CrdtTable.FULL, x.count(0, 0, 1));
        Due.is("full: link", CrdtTable.FULL, x.link(0, 0, -1));
        Due.is("full: known", MOST, x.known(0));
        Due.is("full: rows", 1, x.rows(0));
        Due.is("full: nameOf", 7, x.nameOf(0, 0));
        Due.is("full: countOf", MOST - 3, x.countOf(0, 0));
        Due.is("full: linkOf", 0, x.linkOf(0, 0));
        Due.is("full: replica 2 knows none", 0, x.known(2));
    }

    private static void objectsStandAlone() {
        CrdtTable x = new CrdtTable();
        CrdtTable y = new CrdtTable();
        x.add(0, 0);
        Due.is("alone: known", 0, y.known(0));
        Due.is("alone: first number", 0, y.add(0, 1));
        Due.is("alone: rows", 1, x.rows(0));
    }
}
