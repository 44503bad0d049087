import java.util.function.Consumer;

/**
 * Two tables with the same past. One of them gets the calls that must change nothing; from then on
 * both must answer alike. Each table gets well under 512 calls.
 */
final class Twins {
    private Twins() {
    }

    /** Stamps stand at 3, 3 and 2, so that afterwards a stamp that moved by 1 changes a last name. */
    static void begin(CrdtTable x) {
        for (int replica = 0; replica < 3; replica++) {
            x.add(replica, 0);
            x.add(replica, 1);
        }
        x.count(0, 0, 5);
        x.link(1, 1, 0);
    }

    static void beginFull(CrdtTable x) {
        begin(x);
        for (int action = 8; action < 60; action++) {
            x.count(0, 0, 1);
        }
    }

    static void stayAlike(String what, Consumer<CrdtTable> past, Consumer<CrdtTable> changesNothing) {
        CrdtTable touched = new CrdtTable();
        CrdtTable untouched = new CrdtTable();
        past.accept(touched);
        past.accept(untouched);
        changesNothing.accept(touched);
        showAlike(what + ", right after", touched, untouched);
        goOnAlike(what, touched, untouched);
        showAlike(what + ", in the end", touched, untouched);
    }

    private static void goOnAlike(String what, CrdtTable x, CrdtTable y) {
        String then = what + ", then ";
        Due.is(then + "name(0, 0, 10)", y.name(0, 0, 10), x.name(0, 0, 10));
        Due.is(then + "name(1, 0, 11)", y.name(1, 0, 11), x.name(1, 0, 11));
        Due.is(then + "name(2, 0, 12)", y.name(2, 0, 12), x.name(2, 0, 12));
        Due.is(then + "add(0, 5)", y.add(0, 5), x.add(0, 5));
        Due.is(then + "name(0, 1, 20)", y.name(0, 1, 20), x.name(0, 1, 20));
        Due.is(then + "name(1, 1, 21)", y.name(1, 1, 21), x.name(1, 1, 21));
        Due.is(then + "learn(2, 0)", y.learn(2, 0), x.learn(2, 0));
        Due.is(then + "learn(2, 1)", y.learn(2, 1), x.learn(2, 1));
        Due.is(then + "learn(0, 2)", y.learn(0, 2), x.learn(0, 2));
        Due.is(then + "learn(1, 2)", y.learn(1, 2), x.learn(1, 2));
    }

    private static void showAlike(String what, CrdtTable x, CrdtTable y) {
        for (int p = 0; p < 3; p++) {
            Due.is(what + ": rows(" + p + ")", y.rows(p), x.rows(p));
            Due.is(what + ": sum(" + p + ")", y.sum(p), x.sum(p));
            Due.is(what + ": known(" + p + ")", y.known(p), x.known(p));
            for (int q = 0; q < 3; q++) {
                Due.is(what + ": agree(" + p + ", " + q + ")", y.agree(p, q), x.agree(p, q));
            }
            for (int r = 0; r < 8; r++) {
                String at = "(" + p + ", " + r + ")";
                Due.is(what + ": there" + at, y.there(p, r), x.there(p, r));
                Due.is(what + ": nameOf" + at, y.nameOf(p, r), x.nameOf(p, r));
                Due.is(what + ": countOf" + at, y.countOf(p, r), x.countOf(p, r));
                Due.is(what + ": linkOf" + at, y.linkOf(p, r), x.linkOf(p, r));
            }
        }
    }
}
