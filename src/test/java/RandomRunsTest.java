import java.util.ArrayList;
import java.util.HashSet;
import java.util.List;
import java.util.Random;
import java.util.Set;

/** Long runs of drawn calls, each answer held against a model written from the document with sets. */
public final class RandomRunsTest {
    private static final int RUNS = 2000;
    private static final int CALLS = 512;

    private record Action(int number, String kind, int row, int value, int replica, int stamp, Set<Action> cancels) {
        @Override
        public int hashCode() {
            return number;
        }

        @Override
        public boolean equals(Object other) {
            return this == other;
        }
    }

    private static final class Model {
        private int made = 0;
        private final int[] stamp = new int[3];
        private final List<Set<Action>> knows = List.of(new HashSet<>(), new HashSet<>(), new HashSet<>());

        int act(String kind, int replica, int row, int value) {
            if (replica < 0 || replica > 2) {
                return -1;
            }
            if (row < 0 || row > 7 || kind.equals("LINK") && (value < -1 || value > 7)) {
                return -2;
            }
            if (!kind.equals("ADD") && !there(replica, row)) {
                return -4;
            }
            if (made == 60) {
                return -3;
            }
            stamp[replica] += 1;
            Set<Action> cancels = kind.equals("DROP") ? of(replica, "ADD", row) : Set.of();
            knows.get(replica).add(new Action(made, kind, row, value, replica, stamp[replica], cancels));
            return made++;
        }

        int learn(int to, int from, int n) {
            if (to < 0 || to > 2 || from < 0 || from > 2) {
                return -1;
            }
            if (to == from) {
                return -5;
            }
            List<Action> fresh = new ArrayList<>(knows.get(from));
            fresh.removeAll(knows.get(to));
            fresh.sort((a, b) -> a.number - b.number);
            List<Action> taken = fresh.subList(0, Math.max(0, Math.min(n, fresh.size())));
            for (Action action : taken) {
                stamp[to] = Math.max(stamp[to], action.stamp);
            }
            knows.get(to).addAll(taken);
            return taken.size();
        }

        Set<Action> of(int replica, String kind, int row) {
            Set<Action> found = new HashSet<>();
            for (Action action : knows.get(replica)) {
                if (action.kind.equals(kind) && action.row == row) {
                    found.add(action);
                }
            }
            return found;
        }

        boolean there(int replica, int row) {
            if (replica < 0 || replica > 2) {
                return false;
            }
            Set<Action> adds = of(replica, "ADD", row);
            for (Action drop : of(replica, "DROP", row)) {
                adds.removeAll(drop.cancels);
            }
            return !adds.isEmpty();
        }

        int last(int replica, String kind, int row, int none) {
            if (!there(replica, row)) {
                return none;
            }
            return of(replica, kind, row).stream()
                    .max((a, b) -> a.stamp != b.stamp ? a.stamp - b.stamp : a.replica - b.replica)
                    .map(action -> action.value).orElse(none);
        }

        int nameOf(int replica, int row) {
            return last(replica, "NAME", row, 0);
        }

        int linkOf(int replica, int row) {
            int to = last(replica, "LINK", row, -1);
            return there(replica, to) ? to : -1;
        }

        int countOf(int replica, int row) {
            return there(replica, row) ? of(replica, "COUNT", row).stream().mapToInt(Action::value).sum() : 0;
        }

        int rows(int replica) {
            int found = 0;
            for (int row = 0; row < 8; row++) {
                found += there(replica, row) ? 1 : 0;
            }
            return replica < 0 || replica > 2 ? -1 : found;
        }

        int sum(int replica) {
            int total = 0;
            for (int row = 0; row < 8; row++) {
                total += countOf(replica, row);
            }
            return replica < 0 || replica > 2 ? -1 : total;
        }

        int known(int replica) {
            return replica < 0 || replica > 2 ? -1 : knows.get(replica).size();
        }

        boolean agree(int a, int b) {
            return a >= 0 && a < 3 && b >= 0 && b < 3 && shown(a).equals(shown(b));
        }

        private List<List<Integer>> shown(int replica) {
            List<List<Integer>> table = new ArrayList<>();
            for (int row = 0; row < 8; row++) {
                table.add(there(replica, row)
                        ? List.of(nameOf(replica, row), countOf(replica, row), linkOf(replica, row))
                        : List.of());
            }
            return table;
        }
    }

    public static void main(String[] args) {
        for (int run = 0; run < RUNS && !Due.someWrong(); run++) {
            oneRun(run);
        }
        Due.end();
    }

    private static void oneRun(int run) {
        Random random = new Random(run);
        CrdtTable x = new CrdtTable();
        Model model = new Model();
        // Few rows make the replicas meet; a high share of looks delays the 60th action.
        int rows = 1 + random.nextInt(8);
        int looks = random.nextInt(10);
        for (int call = 0; call < CALLS && !Due.someWrong(); call++) {
            String where = "run " + run + ", call " + call + ": ";
            int replica = drawn(random, 3);
            int row = drawn(random, rows);
            int other = drawn(random, 3);
            if (random.nextInt(10) < looks) {
                look(where, x, model, random.nextInt(8), replica, row, other);
            } else {
                change(where, x, model, random, replica, row, other);
            }
        }
    }

    private static int drawn(Random random, int below) {
        if (random.nextInt(40) != 0) {
            return random.nextInt(below);
        }
        int[] odd = {-2, -1, 3, 7, 8, Integer.MIN_VALUE, Integer.MAX_VALUE};
        return odd[random.nextInt(odd.length)];
    }

    private static void change(String where, CrdtTable x, Model model, Random random, int p, int r, int q) {
        int small = random.nextInt(7) - 2;
        int value = random.nextInt(4) == 0 ? random.nextInt() : small;
        int to = random.nextInt(3) == 0 ? small : drawn(random, 8);
        String call = where + "(" + p + ", " + r + ", " + q + ", " + value + ", " + to + ")";
        switch (random.nextInt(9)) {
            case 0, 1 -> Due.is(call + " add", model.act("ADD", p, r, 0), x.add(p, r));
            case 2 -> Due.is(call + " drop", model.act("DROP", p, r, 0), x.drop(p, r));
            case 3 -> Due.is(call + " name", model.act("NAME", p, r, value), x.name(p, r, value));
            case 4 -> Due.is(call + " count", model.act("COUNT", p, r, value), x.count(p, r, value));
            case 5 -> Due.is(call + " link", model.act("LINK", p, r, to), x.link(p, r, to));
            case 6 -> Due.is(call + " learn", model.learn(p, q, 60), x.learn(p, q));
            default -> Due.is(call + " learnSome", model.learn(p, q, value), x.learnSome(p, q, value));
        }
    }

    private static void look(String where, CrdtTable x, Model model, int which, int p, int r, int q) {
        String call = where + "(" + p + ", " + r + ", " + q + ")";
        switch (which) {
            case 0 -> Due.is(call + " there", model.there(p, r), x.there(p, r));
            case 1 -> Due.is(call + " nameOf", model.nameOf(p, r), x.nameOf(p, r));
            case 2 -> Due.is(call + " countOf", model.countOf(p, r), x.countOf(p, r));
            case 3 -> Due.is(call + " linkOf", model.linkOf(p, r), x.linkOf(p, r));
            case 4 -> Due.is(call + " rows", model.rows(p), x.rows(p));
            case 5 -> Due.is(call + " sum", model.sum(p), x.sum(p));
            case 6 -> Due.is(call + " known", model.known(p), x.known(p));
            default -> Due.is(call + " agree", model.agree(p, q), x.agree(p, q));
        }
    }
}
