public final class CrdtTable {
    public static final int BAD_REPLICA = -1;
    public static final int BAD_ROW = -2;
    public static final int FULL = -3;
    public static final int ABSENT = -4;
    public static final int SAME = -5;

    private static final int REPLICAS = 3;
    private static final int ROWS = 8;
    private static final int MOST_ACTIONS = 60;

    private static final int ADD = 0;
    private static final int DROP = 1;
    private static final int NAME = 2;
    private static final int COUNT = 3;
    private static final int LINK = 4;

    private static final int NO_ACTION = -1;
    private static final int NO_ROW = -1;

    // The actions of all replicas, by number.
    private final int[] actionKind = new int[MOST_ACTIONS];
    private final int[] actionRow = new int[MOST_ACTIONS];
    private final int[] actionValue = new int[MOST_ACTIONS];
    private final int[] actionReplica = new int[MOST_ACTIONS];
    private final int[] actionStamp = new int[MOST_ACTIONS];
    // What a DROP cancels is settled when it is done, so it is kept with the action.
    private final long[] actionCancels = new long[MOST_ACTIONS];
    private int actionsDone = 0;

    // A set of actions is a long with one bit for each number: 60 actions fit.
    private final long[] knownActions = new long[REPLICAS];
    private final int[] replicaStamp = new int[REPLICAS];

    public CrdtTable() {
    }

    public int add(int replica, int row) {
        if (!isReplica(replica)) {
            return BAD_REPLICA;
        }
        if (!isRow(row)) {
            return BAD_ROW;
        }
        return act(replica, ADD, row, 0);
    }

    public int drop(int replica, int row) {
        return actOnRowThere(replica, DROP, row, 0);
    }

    public int name(int replica, int row, int name) {
        return actOnRowThere(replica, NAME, row, name);
    }

    public int count(int replica, int row, int by) {
        return actOnRowThere(replica, COUNT, row, by);
    }

    public int link(int replica, int row, int to) {
        if (!isReplica(replica)) {
            return BAD_REPLICA;
        }
        if (to != NO_ROW && !isRow(to)) {
            return BAD_ROW;
        }
        return actOnRowThere(replica, LINK, row, to);
    }

    public int learn(int to, int from) {
        return learnAtMost(to, from, MOST_ACTIONS);
    }

    public int learnSome(int to, int from, int n) {
        return learnAtMost(to, from, n);
    }

    public boolean there(int replica, int row) {
        if (!isReplica(replica) || !isRow(row)) {
            return false;
        }
        long adds = knownAdds(replica, row);
        long cancelled = knownCancels(replica, row);
        return (adds & ~cancelled) != 0L;
    }

    public int nameOf(int replica, int row) {
        if (!there(replica, row)) {
            return 0;
        }
        int last = lastKnown(replica, NAME, row);
        return last == NO_ACTION ? 0 : actionValue[last];
    }

    public int countOf(int replica, int row) {
        if (!there(replica, row)) {
            return 0;
        }
        int total = 0;
        for (int action = 0; action < MOST_ACTIONS; action++) {
            if (isKnown(replica, action) && isOf(action, COUNT, row)) {
                total += actionValue[action];
            }
        }
        return total;
    }

    public int linkOf(int replica, int row) {
        if (!there(replica, row)) {
            return NO_ROW;
        }
        int last = lastKnown(replica, LINK, row);
        int to = last == NO_ACTION ? NO_ROW : actionValue[last];
        return there(replica, to) ? to : NO_ROW;
    }

    public int rows(int replica) {
        if (!isReplica(replica)) {
            return BAD_REPLICA;
        }
        int found = 0;
        for (int row = 0; row < ROWS; row++) {
            if (there(replica, row)) {
                found++;
            }
        }
        return found;
    }

    public int sum(int replica) {
        if (!isReplica(replica)) {
            return BAD_REPLICA;
        }
        int total = 0;
        for (int row = 0; row < ROWS; row++) {
            total += countOf(replica, row);
        }
        return total;
    }

    public int known(int replica) {
        if (!isReplica(replica)) {
            return BAD_REPLICA;
        }
        int found = 0;
        for (int action = 0; action < MOST_ACTIONS; action++) {
            if (isKnown(replica, action)) {
                found++;
            }
        }
        return found;
    }

    public boolean agree(int a, int b) {
        if (!isReplica(a) || !isReplica(b)) {
            return false;
        }
        for (int row = 0; row < ROWS; row++) {
            if (there(a, row) != there(b, row)
                    || nameOf(a, row) != nameOf(b, row)
                    || countOf(a, row) != countOf(b, row)
                    || linkOf(a, row) != linkOf(b, row)) {
                return false;
            }
        }
        return true;
    }

    private static boolean isReplica(int replica) {
        return replica >= 0 && replica < REPLICAS;
    }

    private static boolean isRow(int row) {
        return row >= 0 && row < ROWS;
    }

    private boolean isKnown(int replica, int action) {
        return (knownActions[replica] >>> action & 1L) != 0L;
    }

    private boolean isOf(int action, int kind, int row) {
        return actionKind[action] == kind && actionRow[action] == row;
    }

    private int actOnRowThere(int replica, int kind, int row, int value) {
        if (!isReplica(replica)) {
            return BAD_REPLICA;
        }
        if (!isRow(row)) {
            return BAD_ROW;
        }
        if (!there(replica, row)) {
            return ABSENT;
        }
        return act(replica, kind, row, value);
    }

    private int act(int replica, int kind, int row, int value) {
        if (actionsDone >= MOST_ACTIONS) {
            return FULL;
        }
        int action = actionsDone;
        actionKind[action] = kind;
        actionRow[action] = row;
        actionValue[action] = value;
        actionReplica[action] = replica;
        actionCancels[action] = kind == DROP ? knownAdds(replica, row) : 0L;
        replicaStamp[replica]++;
        actionStamp[action] = replicaStamp[replica];
        knownActions[replica] |= 1L << action;
        actionsDone++;
        return action;
    }

    // No FULL here: learning makes no action, so a full table can still be brought together.
    private int learnAtMost(int to, int from, int most) {
        if (!isReplica(to) || !isReplica(from)) {
            return BAD_REPLICA;
        }
        if (to == from) {
            return SAME;
        }
        int learned = 0;
        for (int action = 0; action < MOST_ACTIONS && learned < most; action++) {
            if (isKnown(from, action) && !isKnown(to, action)) {
                learnAction(to, action);
                learned++;
            }
        }
        return learned;
    }

    private void learnAction(int replica, int action) {
        knownActions[replica] |= 1L << action;
        if (replicaStamp[replica] < actionStamp[action]) {
            replicaStamp[replica] = actionStamp[action];
        }
    }

    private long knownAdds(int replica, int row) {
        long adds = 0L;
        for (int action = 0; action < MOST_ACTIONS; action++) {
            if (isKnown(replica, action) && isOf(action, ADD, row)) {
                adds |= 1L << action;
            }
        }
        return adds;
    }

    private long knownCancels(int replica, int row) {
        long cancelled = 0L;
        for (int action = 0; action < MOST_ACTIONS; action++) {
            if (isKnown(replica, action) && isOf(action, DROP, row)) {
                cancelled |= actionCancels[action];
            }
        }
        return cancelled;
    }

    private int lastKnown(int replica, int kind, int row) {
        int last = NO_ACTION;
        for (int action = 0; action < MOST_ACTIONS; action++) {
            if (isKnown(replica, action) && isOf(action, kind, row)
                    && (last == NO_ACTION || isLater(action, last))) {
                last = action;
            }
        }
        return last;
    }

    // Numbers don't tell which action is later: a replica that learned little has low stamps.
    private boolean isLater(int action, int other) {
        if (actionStamp[action] != actionStamp[other]) {
            return actionStamp[action] > actionStamp[other];
        }
        return actionReplica[action] > actionReplica[other];
    }
}
