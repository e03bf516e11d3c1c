import java.util.ArrayList;
import java.util.Arrays;
import java.util.HashMap;
import java.util.List;
import java.util.Map;

/** A board that answers by trying out all plans and all loops: slow, plain, and written apart from the program. */
public final class Oracle {
    static final int NEVER = 1 << 20;

    final List<Integer> owner = new ArrayList<>();
    final List<Integer> number = new ArrayList<>();
    final List<int[]> arrows = new ArrayList<>();
    final List<int[]> told = new ArrayList<>();

    public Oracle copy() {
        Oracle c = new Oracle();
        c.owner.addAll(owner);
        c.number.addAll(number);
        for (int[] a : arrows) c.arrows.add(a);
        for (int[] t : told) c.told.add(t);
        return c;
    }

    public int places() {
        return owner.size();
    }

    public int all() {
        return (1 << places()) - 1;
    }

    /** The moves from each place as {to, weight, arrow}; the staying has arrow -1. */
    List<List<int[]>> moves() {
        List<List<int[]>> moves = new ArrayList<>();
        for (int p = 0; p < places(); p++) moves.add(new ArrayList<>());
        for (int a = 0; a < arrows.size(); a++) {
            int[] arrow = arrows.get(a);
            moves.get(arrow[0]).add(new int[] {arrow[1], arrow[2], a});
        }
        for (int p = 0; p < places(); p++) {
            if (moves.get(p).isEmpty()) moves.get(p).add(new int[] {p, 0, -1});
        }
        return moves;
    }

    List<List<int[]>> toldMoves(int player) {
        List<List<int[]>> moves = moves();
        for (int p = 0; p < places(); p++) {
            int[] arrow = told.get(p);
            if (owner.get(p) != player || arrow == null) continue;
            int at = arrows.indexOf(arrow);
            moves.get(p).removeIf(m -> m[2] != at);
        }
        return moves;
    }

    /** All boards of moves that are left when a player has chosen one move for each of its places. */
    List<List<List<int[]>>> plans(int player) {
        List<List<List<int[]>>> plans = new ArrayList<>();
        plans.add(moves());
        for (int p = 0; p < places(); p++) {
            if (owner.get(p) != player) continue;
            List<List<List<int[]>>> more = new ArrayList<>();
            for (List<List<int[]>> plan : plans) {
                for (int[] move : plan.get(p)) {
                    List<List<int[]>> chosen = new ArrayList<>(plan);
                    chosen.set(p, List.of(move));
                    more.add(chosen);
                }
            }
            plans = more;
        }
        return plans;
    }

    /** The longest way into a set when the moves are anyone's; NEVER: there is a way that misses it. */
    private static int longest(List<List<int[]>> moves, int set, int p, int passed) {
        if ((set >> p & 1) != 0) return 0;
        if ((passed >> p & 1) != 0) return NEVER;
        int most = 0;
        for (int[] m : moves.get(p)) {
            most = Math.max(most, 1 + longest(moves, set, m[0], passed | 1 << p));
            if (most >= NEVER) return NEVER;
        }
        return most;
    }

    public int steps(int player, int set, int p) {
        int least = NEVER;
        for (List<List<int[]>> plan : plans(player)) least = Math.min(least, longest(plan, set, p, 0));
        return least >= NEVER ? -1 : least;
    }

    public int forced(int player, int set) {
        int found = 0;
        for (int p = 0; p < places(); p++) if (steps(player, set, p) >= 0) found |= 1 << p;
        return found;
    }

    static int reachable(List<List<int[]>> moves, int p, int within) {
        int seen = 0;
        ArrayList<Integer> open = new ArrayList<>();
        open.add(p);
        while (!open.isEmpty()) {
            int q = open.remove(open.size() - 1);
            if ((seen >> q & 1) != 0 || (within >> q & 1) == 0) continue;
            seen |= 1 << q;
            for (int[] m : moves.get(q)) open.add(m[0]);
        }
        return seen;
    }

    public int kept(int player, int set) {
        int found = 0;
        for (List<List<int[]>> plan : plans(player)) {
            for (int p = 0; p < places(); p++) {
                if ((reachable(plan, p, all()) & ~set) == 0) found |= 1 << p;
            }
        }
        return found;
    }

    /** Whether there is a loop among these places that has the place p. */
    static boolean onLoop(List<List<int[]>> moves, int p, int within) {
        if ((within >> p & 1) == 0) return false;
        for (int[] m : moves.get(p)) {
            if ((reachable(moves, m[0], within) >> p & 1) != 0) return true;
        }
        return false;
    }

    public int again(int player, int set) {
        int found = 0;
        for (List<List<int[]>> plan : plans(player)) {
            int bad = 0;
            for (int q = 0; q < places(); q++) if (onLoop(plan, q, all() & ~set)) bad |= 1 << q;
            for (int p = 0; p < places(); p++) if ((reachable(plan, p, all()) & bad) == 0) found |= 1 << p;
        }
        return found;
    }

    /** By a board of places and what is waited for, and the sets from which a change can be forced again. */
    public int both(int player, int one, int two) {
        int n = places();
        List<List<int[]>> moves = moves();
        boolean[][] can = new boolean[2][n];
        for (boolean[] row : can) Arrays.fill(row, true);
        for (int round = 0; round <= 2 * n; round++) {
            boolean[][] near = new boolean[2][n];
            for (int inner = 0; inner <= 2 * n; inner++) {
                boolean[][] next = new boolean[2][n];
                for (int w = 0; w < 2; w++) {
                    for (int p = 0; p < n; p++) {
                        boolean met = ((w == 0 ? one : two) >> p & 1) != 0;
                        boolean[] row = met ? can[1 - w] : near[w];
                        boolean any = false;
                        boolean every = true;
                        for (int[] m : moves.get(p)) {
                            any |= row[m[0]];
                            every &= row[m[0]];
                        }
                        next[w][p] = owner.get(p) == player ? any : every;
                    }
                }
                near = next;
            }
            can = near;
        }
        int found = 0;
        for (int p = 0; p < n; p++) if (can[0][p]) found |= 1 << p;
        return found;
    }

    /** The places from which a loop can be come to whose least number is of a kind by 2. */
    int comeToLoop(List<List<int[]>> moves, int kind) {
        int bad = 0;
        for (int q = 0; q < places(); q++) {
            if ((number.get(q) & 1) != kind) continue;
            int high = 0;
            for (int p = 0; p < places(); p++) if (number.get(p) >= number.get(q)) high |= 1 << p;
            if (onLoop(moves, q, high)) bad |= 1 << q;
        }
        int found = 0;
        for (int p = 0; p < places(); p++) if ((reachable(moves, p, all()) & bad) != 0) found |= 1 << p;
        return found;
    }

    public int wonBy(int player) {
        int found = 0;
        for (List<List<int[]>> plan : plans(player)) found |= all() & ~comeToLoop(plan, 1 - player);
        return found;
    }

    public int plan(int place) {
        int player = owner.get(place);
        int region = wonBy(player);
        if ((region >> place & 1) == 0) return -1;
        Oracle left = copy();
        for (int p = 0; p <= place; p++) {
            if (owner.get(p) != player || (region >> p & 1) == 0) continue;
            int from = p;
            for (int[] arrow : arrows) {
                if (arrow[0] != p) continue;
                Oracle tried = left.copy();
                tried.arrows.removeIf(b -> b[0] == from && b != arrow);
                if ((region & ~tried.wonBy(player)) != 0) continue;
                if (p == place) return arrows.indexOf(arrow);
                left = tried;
                break;
            }
        }
        return -1;
    }

    public int after(int k, int p) {
        return after(k, p, new HashMap<>());
    }

    private int after(int k, int p, Map<Integer, Integer> known) {
        if (k == 0) return 0;
        Integer had = known.get(k * 8 + p);
        if (had != null) return had;
        Integer best = null;
        for (int[] m : moves().get(p)) {
            int sum = m[1] + after(k - 1, m[0], known);
            if (best == null) best = sum;
            else best = owner.get(p) == 0 ? Math.max(best, sum) : Math.min(best, sum);
        }
        known.put(k * 8 + p, best);
        return best;
    }

    /** By the most after very many moves, and the one fraction with 8 below at most that is so near. */
    private int[] nearFraction(List<List<int[]>> moves, int best, int place) {
        int n = places();
        long[] sum = new long[n];
        int many = 20000;
        for (int i = 0; i < many; i++) {
            long[] next = new long[n];
            for (int p = 0; p < n; p++) {
                boolean most = owner.get(p) == best;
                long value = most ? Long.MIN_VALUE : Long.MAX_VALUE;
                for (int[] m : moves.get(p)) {
                    long had = m[1] + sum[m[0]];
                    value = most ? Math.max(value, had) : Math.min(value, had);
                }
                next[p] = value;
            }
            sum = next;
        }
        double near = (double) sum[place] / many;
        int[] found = null;
        double off = 0.0085;
        for (int below = 1; below <= 8; below++) {
            int above = (int) Math.round(near * below);
            double far = Math.abs((double) above / below - near);
            if (far < off - 1e-9) {
                off = far;
                found = new int[] {above, below};
            }
        }
        return found;
    }

    public int[] mean(int place) {
        return nearFraction(moves(), 0, place);
    }

    public int[] rate(int player, int set, int place) {
        List<List<int[]>> moves = moves();
        for (int p = 0; p < places(); p++) {
            for (int[] m : moves.get(p)) m[1] = set >> p & 1;
        }
        return nearFraction(moves, player, place);
    }

    public int judged(int player) {
        int found = 0;
        for (int p = 0; p < places(); p++) if (breaker(player, p) == null) found |= 1 << p;
        return found;
    }

    /** All rows whose last place alone is one ahead of it. */
    private void rows(List<List<int[]>> moves, List<Integer> row, List<List<Integer>> found) {
        for (int[] m : moves.get(row.get(row.size() - 1))) {
            List<Integer> longer = new ArrayList<>(row);
            longer.add(m[0]);
            if (row.contains(m[0])) found.add(longer);
            else rows(moves, longer, found);
        }
    }

    public List<Integer> breaker(int player, int place) {
        List<List<Integer>> rows = new ArrayList<>();
        rows(toldMoves(player), List.of(place), rows);
        List<Integer> best = null;
        for (List<Integer> row : rows) {
            int least = 8;
            int last = row.size() - 1;
            for (int i = row.indexOf(row.get(last)); i < last; i++) least = Math.min(least, number.get(row.get(i)));
            if ((least & 1) == player) continue;
            if (best == null || isAhead(row, best)) best = row;
        }
        return best;
    }

    private static boolean isAhead(List<Integer> a, List<Integer> b) {
        if (a.size() != b.size()) return a.size() < b.size();
        for (int i = 0; i < a.size(); i++) {
            if (!a.get(i).equals(b.get(i))) return a.get(i) < b.get(i);
        }
        return false;
    }

    public int[] worth(int player, int place) {
        List<List<int[]>> moves = toldMoves(player);
        List<List<Integer>> rows = new ArrayList<>();
        rows(moves, List.of(place), rows);
        int[] best = null;
        for (List<Integer> row : rows) {
            int last = row.size() - 1;
            int first = row.indexOf(row.get(last));
            int sum = 0;
            for (int i = first; i < last; i++) {
                for (int[] m : moves.get(row.get(i))) if (m[0] == row.get(i + 1)) sum += m[1];
            }
            int[] now = {sum, last - first};
            int order = best == null ? 0 : now[0] * best[1] - best[0] * now[1];
            if (best == null || (player == 0 ? order < 0 : order > 0)) best = now;
        }
        return lowest(best);
    }

    static int[] lowest(int[] fraction) {
        int a = Math.abs(fraction[0]);
        int b = fraction[1];
        while (b != 0) {
            int rest = a % b;
            a = b;
            b = rest;
        }
        return new int[] {fraction[0] / a, fraction[1] / a};
    }
}
