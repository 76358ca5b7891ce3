import java.util.ArrayList;
import java.util.Arrays;
import java.util.List;

/**
 * The document's words over again, in the plainest form and by other ways than the program's where
 * there are any: all strategies, all sets, all partitions and all traces are tried one by one, in
 * exact fractions. It holds whole games only and knows nothing of wrong inputs.
 */
final class Oracle {
    final int n;
    final char[] player;
    final int[] colour;
    final boolean[] target;
    final List<List<Choice>> choices = new ArrayList<>();
    final int[] told;
    int discountAbove = 1;
    int discountBelow = 2;
    int firstWeight = 1;
    int secondWeight = 1;

    static final class Choice {
        final int first;
        final int second;
        final int[] weight;

        Choice(int first, int second, int[] weight) {
            this.first = first;
            this.second = second;
            this.weight = weight;
        }

        Fraction chance(int to) {
            return Fraction.of(weight[to], Arrays.stream(weight).sum());
        }

        boolean isLeadingInto(boolean[] set) {
            for (int t = 0; t < set.length; t++) {
                if (weight[t] > 0 && !set[t]) {
                    return false;
                }
            }
            return true;
        }

        boolean isTouching(boolean[] set) {
            for (int t = 0; t < set.length; t++) {
                if (weight[t] > 0 && set[t]) {
                    return true;
                }
            }
            return false;
        }
    }

    Oracle(int n) {
        this.n = n;
        player = new char[n];
        colour = new int[n];
        target = new boolean[n];
        told = new int[n];
        for (int s = 0; s < n; s++) {
            choices.add(new ArrayList<>());
        }
    }

    /** One that can be changed without this one; the choices are the same. */
    Oracle copy() {
        Oracle copy = new Oracle(n);
        copy.discountAbove = discountAbove;
        copy.discountBelow = discountBelow;
        copy.firstWeight = firstWeight;
        copy.secondWeight = secondWeight;
        for (int s = 0; s < n; s++) {
            copy.player[s] = player[s];
            copy.colour[s] = colour[s];
            copy.target[s] = target[s];
            copy.told[s] = told[s];
            copy.choices.get(s).addAll(choices.get(s));
        }
        return copy;
    }

    /** A new object that holds the same. */
    Chanceledger game() {
        Chanceledger game = new Chanceledger();
        for (int s = 0; s < n; s++) {
            game.addState(player[s], colour[s]);
        }
        for (int s = 0; s < n; s++) {
            for (Choice c : choices.get(s)) {
                int number = game.addChoice(s, c.first, c.second);
                for (int t = 0; t < n; t++) {
                    if (c.weight[t] > 0) {
                        game.addWeight(s, number, t, c.weight[t]);
                    }
                }
            }
        }
        layOver(game);
        return game;
    }

    /** Gives a game with the same choices this one's targets, told choices, discount and weights. */
    void layOver(Chanceledger game) {
        for (int s = 0; s < n; s++) {
            game.setTarget(s, target[s]);
            game.tell(s, told[s]);
        }
        game.setDiscount(discountAbove, discountBelow);
        game.setWeights(firstWeight, secondWeight);
    }

    private Fraction discount() {
        return Fraction.of(discountAbove, discountBelow);
    }

    Choice choice(int state, int choice) {
        return choices.get(state).get(choice);
    }

    private Fraction cost(char aim, Choice choice) {
        switch (aim) {
            case 'f': return Fraction.of(choice.first, 1);
            case 's': return Fraction.of(choice.second, 1);
            default: return Fraction.of((long) firstWeight * choice.first + (long) secondWeight * choice.second, 1);
        }
    }

    // ---- chains

    Fraction[] chain(char aim, int[] pick) {
        switch (aim) {
            case 'r': return absorbed(pick, target, ones(target));
            case 'm': return longRun(pick, true);
            case 'p': return longRun(pick, false);
            default: return discounted(aim, pick);
        }
    }

    private Fraction[] ones(boolean[] set) {
        Fraction[] row = new Fraction[n];
        for (int s = 0; s < n; s++) {
            row[s] = set[s] ? Fraction.ONE : Fraction.ZERO;
        }
        return row;
    }

    private Fraction[] discounted(char aim, int[] pick) {
        Fraction[][] grid = new Fraction[n][n + 1];
        for (int s = 0; s < n; s++) {
            Choice c = choice(s, pick[s]);
            for (int t = 0; t < n; t++) {
                grid[s][t] = (s == t ? Fraction.ONE : Fraction.ZERO).minus(discount().times(c.chance(t)));
            }
            grid[s][n] = cost(aim, c);
        }
        return solveLinear(grid);
    }

    /** The expected prize of the first state of a set that is reached, 0 where none ever is. */
    private Fraction[] absorbed(int[] pick, boolean[] set, Fraction[] prize) {
        boolean[][] reach = reach(pick);
        Fraction[][] grid = new Fraction[n][n + 1];
        for (int s = 0; s < n; s++) {
            boolean isLeading = false;
            for (int t = 0; t < n; t++) {
                isLeading = isLeading || set[t] && reach[s][t];
            }
            for (int t = 0; t < n; t++) {
                grid[s][t] = s == t ? Fraction.ONE : Fraction.ZERO;
                if (!set[s] && isLeading) {
                    grid[s][t] = grid[s][t].minus(choice(s, pick[s]).chance(t));
                }
            }
            grid[s][n] = set[s] ? prize[s] : Fraction.ZERO;
        }
        return solveLinear(grid);
    }

    private Fraction[] longRun(int[] pick, boolean isMean) {
        boolean[] closed = new boolean[n];
        Fraction[] prize = new Fraction[n];
        for (int s = 0; s < n; s++) {
            boolean[] set = closedSet(pick, s);
            closed[s] = set != null;
            if (set != null) {
                prize[s] = isMean ? mean(pick, set) : parity(set);
            }
        }
        return absorbed(pick, closed, prize);
    }

    private Fraction parity(boolean[] set) {
        int least = 3;
        for (int s = 0; s < n; s++) {
            least = set[s] && colour[s] < least ? colour[s] : least;
        }
        return least % 2 == 0 ? Fraction.ONE : Fraction.ZERO;
    }

    /** By the stationary shares of the set's states. */
    private Fraction mean(int[] pick, boolean[] set) {
        Fraction[][] grid = new Fraction[n][n + 1];
        boolean isFirst = true;
        for (int t = 0; t < n; t++) {
            for (int s = 0; s < n; s++) {
                grid[t][s] = s == t ? Fraction.ONE : Fraction.ZERO;
                if (set[t] && set[s]) {
                    grid[t][s] = isFirst ? Fraction.ONE : grid[t][s].minus(choice(s, pick[s]).chance(t));
                }
            }
            grid[t][n] = set[t] && isFirst ? Fraction.ONE : Fraction.ZERO;
            isFirst = isFirst && !set[t];
        }
        Fraction[] share = solveLinear(grid);
        Fraction mean = Fraction.ZERO;
        for (int s = 0; s < n; s++) {
            if (set[s]) {
                mean = mean.plus(share[s].times(cost('f', choice(s, pick[s]))));
            }
        }
        return mean;
    }

    private static Fraction[] solveLinear(Fraction[][] grid) {
        int size = grid.length;
        for (int k = 0; k < size; k++) {
            int pivot = k;
            while (grid[pivot][k].isZero()) {
                pivot++;
            }
            Fraction[] row = grid[pivot];
            grid[pivot] = grid[k];
            grid[k] = row;
            for (int i = 0; i < size; i++) {
                if (i != k && !grid[i][k].isZero()) {
                    Fraction factor = grid[i][k].by(row[k]);
                    for (int j = k; j <= size; j++) {
                        grid[i][j] = grid[i][j].minus(factor.times(row[j]));
                    }
                }
            }
        }
        Fraction[] answer = new Fraction[size];
        for (int k = 0; k < size; k++) {
            answer[k] = grid[k][size].by(grid[k][k]);
        }
        return answer;
    }

    /** By one or more steps. */
    private boolean[][] reach(int[] pick) {
        boolean[][] next = new boolean[n][n];
        for (int s = 0; s < n; s++) {
            for (int t = 0; t < n; t++) {
                next[s][t] = choice(s, pick[s]).weight[t] > 0;
            }
        }
        return reach(next);
    }

    private boolean[][] reach(boolean[][] next) {
        boolean[][] reach = new boolean[n][n];
        for (int s = 0; s < n; s++) {
            walk(next, s, reach[s]);
        }
        return reach;
    }

    private void walk(boolean[][] next, int from, boolean[] seen) {
        for (int t = 0; t < n; t++) {
            if (next[from][t] && !seen[t]) {
                seen[t] = true;
                walk(next, t, seen);
            }
        }
    }

    boolean[] closedSet(int[] pick, int state) {
        boolean[][] reach = reach(pick);
        for (int t = 0; t < n; t++) {
            if (reach[state][t] && !reach[t][state]) {
                return null;
            }
        }
        return reach[state];
    }

    // ---- values

    private interface Visitor {
        void visit(int[] pick);
    }

    /** Visits all strategies of one player, laid over those of the other one. */
    private void strategies(char of, int state, int[] pick, Visitor visitor) {
        if (state == n) {
            visitor.visit(pick);
        } else if (player[state] != of) {
            strategies(of, state + 1, pick, visitor);
        } else {
            for (int c = 0; c < choices.get(state).size(); c++) {
                pick[state] = c;
                strategies(of, state + 1, pick, visitor);
            }
        }
    }

    Fraction[] values(char aim) {
        Fraction[] best = new Fraction[n];
        int[] pick = new int[n];
        strategies('a', 0, pick, p -> takeBest(best, best('b', aim, p.clone()), 1));
        return best;
    }

    /** What a player gets at best against the other one's pick. */
    private Fraction[] best(char of, char aim, int[] pick) {
        Fraction[] best = new Fraction[n];
        strategies(of, 0, pick, p -> takeBest(best, chain(aim, p), of == 'a' ? 1 : -1));
        return best;
    }

    private void takeBest(Fraction[] best, Fraction[] found, int sign) {
        for (int s = 0; s < n; s++) {
            if (best[s] == null || found[s].compareTo(best[s]) * sign > 0) {
                best[s] = found[s];
            }
        }
    }

    Fraction[] response(char keeper, char aim) {
        return best(keeper == 'a' ? 'b' : 'a', aim, told.clone());
    }

    double bound(int state, int rounds) {
        double[] bounds = new double[n];
        for (int s = 0; s < n; s++) {
            bounds[s] = target[s] ? 1 : 0;
        }
        for (int round = 0; round < rounds; round++) {
            double[] next = new double[n];
            for (int s = 0; s < n; s++) {
                next[s] = target[s] ? 1 : nextBound(bounds, s);
            }
            bounds = next;
        }
        return bounds[state];
    }

    private double nextBound(double[] bounds, int state) {
        double best = player[state] == 'a' ? -1 : 2;
        for (Choice c : choices.get(state)) {
            double sum = 0;
            for (int t = 0; t < n; t++) {
                sum += (double) c.weight[t] * bounds[t];
            }
            double found = sum / (double) Arrays.stream(c.weight).sum();
            best = player[state] == 'a' ? Math.max(best, found) : Math.min(best, found);
        }
        return best;
    }

    // ---- told strategies

    int[] solved(char aim, Fraction[] value) {
        int[] result = new int[n];
        int[] rank = aim == 'r' ? ranks(value) : null;
        for (int s = 0; s < n; s++) {
            boolean[] lower = new boolean[n];
            Arrays.fill(lower, true);
            if (aim == 'r' && player[s] == 'a' && !target[s] && !value[s].isZero()) {
                for (int t = 0; t < n; t++) {
                    lower[t] = rank[t] < rank[s];
                }
            }
            int c = 0;
            while (!isGood(aim, s, choice(s, c), value) || !choice(s, c).isTouching(lower)) {
                c++;
            }
            result[s] = c;
        }
        return result;
    }

    private boolean isGood(char aim, int state, Choice choice, Fraction[] value) {
        if (aim == 'r' && target[state]) {
            return true;
        }
        Fraction next = Fraction.ZERO;
        for (int t = 0; t < n; t++) {
            next = next.plus(choice.chance(t).times(value[t]));
        }
        return value[state].equals(aim == 'r' ? next : cost(aim, choice).plus(discount().times(next)));
    }

    /** A rank of 100 stands for none. */
    private int[] ranks(Fraction[] value) {
        int[] rank = new int[n];
        boolean[] has = target.clone();
        for (int s = 0; s < n; s++) {
            rank[s] = target[s] ? 0 : 100;
        }
        for (int round = 1; round <= n; round++) {
            boolean[] before = has.clone();
            for (int s = 0; s < n; s++) {
                int touching = 0;
                int good = 0;
                for (Choice c : choices.get(s)) {
                    if (isGood('r', s, c, value)) {
                        good++;
                        touching += c.isTouching(before) ? 1 : 0;
                    }
                }
                boolean isSo = player[s] == 'a' ? touching > 0 : touching == good;
                if (!before[s] && !value[s].isZero() && isSo) {
                    rank[s] = round;
                    has[s] = true;
                }
            }
        }
        return rank;
    }

    // ---- components and classes

    static int lowest(boolean[] set) {
        for (int s = 0; set != null && s < set.length; s++) {
            if (set[s]) {
                return s;
            }
        }
        return -1;
    }

    /** All sets are tried; the union of those with the state is told by its lowest one. */
    int endOf(int state) {
        boolean[] union = new boolean[n];
        for (int bits = 1; bits < 1 << n; bits++) {
            boolean[] set = new boolean[n];
            for (int s = 0; s < n; s++) {
                set[s] = (bits >> s & 1) == 1;
            }
            if (set[state] && isEndComponent(set)) {
                for (int s = 0; s < n; s++) {
                    union[s] |= set[s];
                }
            }
        }
        return lowest(union);
    }

    private boolean isEndComponent(boolean[] set) {
        boolean[][] next = new boolean[n][n];
        for (int s = 0; s < n; s++) {
            for (Choice c : choices.get(s)) {
                for (int t = 0; t < n; t++) {
                    next[s][t] |= set[s] && c.isLeadingInto(set) && c.weight[t] > 0;
                }
            }
        }
        boolean[][] reach = reach(next);
        for (int s = 0; s < n; s++) {
            for (int t = 0; t < n; t++) {
                if (set[s] && set[t] && !reach[s][t]) {
                    return false;
                }
            }
        }
        return true;
    }

    /** All partitions are tried; for each state the lowest one of its class in the one with fewest. */
    int[] classes() {
        int[][] best = new int[1][];
        int[] fewest = {n + 1};
        partitions(0, new int[n], 0, fewest, best);
        int[] lowest = new int[n];
        for (int s = 0; s < n; s++) {
            while (best[0][lowest[s]] != best[0][s]) {
                lowest[s]++;
            }
        }
        return lowest;
    }

    private void partitions(int state, int[] part, int parts, int[] fewest, int[][] best) {
        if (state < n) {
            for (int p = 0; p <= parts; p++) {
                part[state] = p;
                partitions(state + 1, part, Math.max(parts, p + 1), fewest, best);
            }
        } else if (parts < fewest[0] && isPartition(part)) {
            fewest[0] = parts;
            best[0] = part.clone();
        }
    }

    private boolean isPartition(int[] part) {
        for (int s = 0; s < n; s++) {
            for (int t = 0; t < n; t++) {
                if (part[s] == part[t] && !isAlike(s, t, part)) {
                    return false;
                }
            }
        }
        return true;
    }

    private boolean isAlike(int state, int other, int[] part) {
        if (player[state] != player[other] || colour[state] != colour[other] || target[state] != target[other]) {
            return false;
        }
        for (Choice c : choices.get(state)) {
            boolean isFound = false;
            for (Choice d : choices.get(other)) {
                isFound = isFound || isAlike(c, d, part);
            }
            if (!isFound) {
                return false;
            }
        }
        return true;
    }

    private boolean isAlike(Choice c, Choice d, int[] part) {
        boolean isSo = c.first == d.first && c.second == d.second;
        for (int p = 0; p < n; p++) {
            Fraction ofC = Fraction.ZERO;
            Fraction ofD = Fraction.ZERO;
            for (int t = 0; t < n; t++) {
                ofC = part[t] == p ? ofC.plus(c.chance(t)) : ofC;
                ofD = part[t] == p ? ofD.plus(d.chance(t)) : ofD;
            }
            isSo = isSo && ofC.equals(ofD);
        }
        return isSo;
    }

    // ---- traces

    static final class Trace {
        final List<Integer> states = new ArrayList<>();
        Fraction weight = Fraction.ZERO;
    }

    /** All traces are tried. */
    Trace trace(int state) {
        Trace best = new Trace();
        traces(state, new ArrayList<>(List.of(state)), Fraction.ONE, best);
        return best;
    }

    private void traces(int at, List<Integer> row, Fraction weight, Trace best) {
        if (target[at]) {
            if (isBetter(row, weight, best)) {
                best.states.clear();
                best.states.addAll(row);
                best.weight = weight;
            }
            return;
        }
        Choice c = choice(at, told[at]);
        for (int t = n - 1; t >= 0; t--) {
            if (c.weight[t] > 0 && !row.contains(t)) {
                row.add(t);
                traces(t, row, weight.times(c.chance(t)), best);
                row.remove(row.size() - 1);
            }
        }
    }

    private static boolean isBetter(List<Integer> row, Fraction weight, Trace best) {
        int sign = weight.compareTo(best.weight);
        if (sign == 0) {
            sign = best.states.size() - row.size();
        }
        for (int i = 0; sign == 0 && i < row.size(); i++) {
            sign = best.states.get(i) - row.get(i);
        }
        return sign > 0;
    }
}
