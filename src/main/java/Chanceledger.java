import java.util.NoSuchElementException;

/**
 * A solver of chance and choice. The numbered promises of the document are kept here; the methods
 * of the face stand in its order, and the classes that do the work stand behind them.
 */
public final class Chanceledger {
    private static final int MOST_STATES = 7;
    private static final int MOST_CHOICES = 3;
    private static final int MOST_MOVES = 21;
    private static final int MOST_COLOUR = 3;
    private static final int MOST_COST = 9;
    private static final int MOST_SUM = 6;
    private static final int MOST_WEIGHT_OF_AIM = 3;
    private static final int MOST_ROUNDS = 60;
    /** 3 choices in each of 7 states: more strategies of both players together there never are. */
    private static final int MOST_STRATEGIES = 2187;
    /** The column of an equation that stands right of the equals sign. */
    private static final int RIGHT = 7;
    /** Euclid's steps for two longs are fewer than this. */
    private static final int MOST_DIVISIONS = 200;
    private static final int SOLVED_AIMS = 4;

    private final Game game;
    private final int[] toldChoice;
    private final Graph graph;
    private final Chain chain;
    private final LongRun longRun;
    private final Improver improver;
    private final Sweep sweep;
    private final Teller teller;
    private final Likeness likeness;
    private final Traces traces;
    private final Values byStep;

    public Chanceledger() {
        Game made = new Game();
        Graph drawn = new Graph(made);
        Chain solved = new Chain(made);
        Improver improved = new Improver(made, drawn, solved);
        game = made;
        toldChoice = new int[MOST_STATES];
        graph = drawn;
        chain = solved;
        longRun = new LongRun(made, drawn, solved);
        improver = improved;
        sweep = new Sweep(made, solved);
        teller = new Teller(made, solved, improved);
        likeness = new Likeness(made);
        traces = new Traces(made);
        byStep = new Values();
    }

    // ---- game

    public int addState(char player, int colour) throws IllegalArgumentException, IllegalStateException {
        needPlayer(player);
        if (colour < 0 || colour > MOST_COLOUR) {
            throw new IllegalArgumentException("no such colour");
        }
        if (game.count >= MOST_STATES) {
            throw new IllegalStateException("no room for a state");
        }
        return game.placeState(player == 'a', colour);
    }

    public int addChoice(int state, int first, int second)
            throws IndexOutOfBoundsException, IllegalArgumentException, IllegalStateException {
        needState(state);
        if (first < 0 || first > MOST_COST || second < 0 || second > MOST_COST) {
            throw new IllegalArgumentException("a cost is out of range");
        }
        if (game.choiceCount[state] >= MOST_CHOICES) {
            throw new IllegalStateException("no room for a choice");
        }
        return game.placeChoice(state, first, second);
    }

    public int addWeight(int state, int choice, int to, int weight)
            throws IndexOutOfBoundsException, IllegalArgumentException, IllegalStateException {
        needChoice(state, choice);
        needState(to);
        if (weight < 1 || weight > MOST_SUM) {
            throw new IllegalArgumentException("the weight is out of range");
        }
        int move = Game.moveOf(state, choice);
        if (game.weightSum[move] + weight > MOST_SUM) {
            throw new IllegalStateException("the sum of the weights would be too great");
        }
        return game.placeWeight(move, to, weight);
    }

    public boolean setTarget(int state, boolean isTarget) throws IndexOutOfBoundsException {
        needState(state);
        return game.mark(state, isTarget);
    }

    public int setDiscount(int above, int below) throws IllegalArgumentException {
        if (above < 1 || above > 2 || below < 2 || below > 3 || below <= above) {
            throw new IllegalArgumentException("no such discount");
        }
        return game.changeDiscount(above, below);
    }

    public int setWeights(int first, int second) throws IllegalArgumentException {
        if (first < 0 || first > MOST_WEIGHT_OF_AIM || second < 0 || second > MOST_WEIGHT_OF_AIM) {
            throw new IllegalArgumentException("a weight is out of range");
        }
        return game.changeWeights(first, second);
    }

    public int states() {
        return game.count;
    }

    public int choices(int state) throws IndexOutOfBoundsException {
        needState(state);
        return game.choiceCount[state];
    }

    public int chance(int state, int choice, int to) throws IndexOutOfBoundsException, ArithmeticException {
        needChoice(state, choice);
        needState(to);
        int move = Game.moveOf(state, choice);
        int sum = game.weightSum[move];
        if (sum == 0) {
            throw new ArithmeticException("the choice has no weights");
        }
        int weight = game.weight[move][to];
        return (int) (10 * lowestAbove(weight, sum) + lowestBelow(weight, sum));
    }

    public boolean isWhole() {
        return game.isReady();
    }

    // ---- values

    public long above(char aim, int state)
            throws IllegalArgumentException, IndexOutOfBoundsException, IllegalStateException {
        findValues(aim, state);
        return chain.toldAbove(state);
    }

    public long below(char aim, int state)
            throws IllegalArgumentException, IndexOutOfBoundsException, IllegalStateException {
        findValues(aim, state);
        return chain.toldBelow(state);
    }

    public long aboveByAll(char aim, int state)
            throws IllegalArgumentException, IndexOutOfBoundsException, IllegalStateException {
        needSolvable(aim, state);
        Values values = sweep.valuesFor(aim);
        return lowestAbove(values.up[state], values.down[state]);
    }

    public long belowByAll(char aim, int state)
            throws IllegalArgumentException, IndexOutOfBoundsException, IllegalStateException {
        needSolvable(aim, state);
        Values values = sweep.valuesFor(aim);
        return lowestBelow(values.up[state], values.down[state]);
    }

    public float valueFloat(char aim, int state)
            throws IllegalArgumentException, IndexOutOfBoundsException, IllegalStateException {
        findValues(aim, state);
        return floatOf(chain.toldAbove(state), chain.toldBelow(state));
    }

    public float restFloat(char aim, int state)
            throws IllegalArgumentException, IndexOutOfBoundsException, IllegalStateException {
        findValues(aim, state);
        return restOf(floatOf(chain.toldAbove(state), chain.toldBelow(state)));
    }

    public long rounded(char aim, int state)
            throws IllegalArgumentException, IndexOutOfBoundsException, IllegalStateException {
        findValues(aim, state);
        return nearestOf(chain.toldAbove(state), chain.toldBelow(state));
    }

    public double bound(int state, int rounds)
            throws IndexOutOfBoundsException, IllegalArgumentException, IllegalStateException {
        needState(state);
        if (rounds < 0 || rounds > MOST_ROUNDS) {
            throw new IllegalArgumentException("the number of rounds is out of range");
        }
        needWhole();
        return graph.boundAfter(state, rounds);
    }

    public boolean isZero(int state) throws IndexOutOfBoundsException, IllegalStateException {
        needWholeFor(state);
        return !Game.holds(graph.positive(), state);
    }

    public boolean isOne(int state) throws IndexOutOfBoundsException, IllegalStateException {
        needWholeFor(state);
        return Game.holds(graph.sure(), state);
    }

    // ---- strategies

    public int solve(char aim) throws IllegalArgumentException, IllegalStateException {
        needAim(aim);
        needWhole();
        return teller.tellBest(aim, toldChoice);
    }

    public int tell(int state, int choice) throws IndexOutOfBoundsException {
        needChoice(state, choice);
        int before = toldChoice[state];
        toldChoice[state] = choice;
        return before;
    }

    public int told(int state) throws IndexOutOfBoundsException {
        needState(state);
        return toldChoice[state];
    }

    public long chainAbove(char aim, int state)
            throws IllegalArgumentException, IndexOutOfBoundsException, IllegalStateException {
        followChain(aim, state);
        return chain.toldAbove(state);
    }

    public long chainBelow(char aim, int state)
            throws IllegalArgumentException, IndexOutOfBoundsException, IllegalStateException {
        followChain(aim, state);
        return chain.toldBelow(state);
    }

    public long responseAbove(char player, char aim, int state)
            throws IllegalArgumentException, IndexOutOfBoundsException, IllegalStateException {
        findResponse(player, aim, state);
        return chain.toldAbove(state);
    }

    public long responseBelow(char player, char aim, int state)
            throws IllegalArgumentException, IndexOutOfBoundsException, IllegalStateException {
        findResponse(player, aim, state);
        return chain.toldBelow(state);
    }

    // ---- components, classes and traces

    public int closedOf(int state)
            throws IndexOutOfBoundsException, IllegalStateException, NoSuchElementException {
        needWholeFor(state);
        graph.follow(toldChoice);
        return lowestOf(graph.closedSet(state));
    }

    public int endOf(int state)
            throws IndexOutOfBoundsException, IllegalStateException, NoSuchElementException {
        needWholeFor(state);
        return lowestOf(graph.endSet(state));
    }

    public int classOf(int state) throws IndexOutOfBoundsException, IllegalStateException {
        needWholeFor(state);
        likeness.sort();
        return likeness.lowest[state];
    }

    public int classes() throws IllegalStateException {
        needWhole();
        likeness.sort();
        return likeness.howMany();
    }

    public int traceLength(int state)
            throws IndexOutOfBoundsException, IllegalStateException, NoSuchElementException {
        findTrace(state);
        return traces.length[state];
    }

    public int traceAt(int state, int index)
            throws IndexOutOfBoundsException, IllegalStateException, NoSuchElementException {
        findTrace(state);
        if (index < 0 || index >= traces.length[state]) {
            throw new NoSuchElementException("the trace has no such state");
        }
        return traces.stateAt(state, index, toldChoice);
    }

    public long traceAbove(int state)
            throws IndexOutOfBoundsException, IllegalStateException, NoSuchElementException {
        findTrace(state);
        return lowestAbove(traces.weights.up[state], traces.weights.down[state]);
    }

    public long traceBelow(int state)
            throws IndexOutOfBoundsException, IllegalStateException, NoSuchElementException {
        findTrace(state);
        return lowestBelow(traces.weights.up[state], traces.weights.down[state]);
    }

    public double meanChoices() throws ArithmeticException {
        if (game.count == 0) {
            throw new ArithmeticException("there are no states");
        }
        int all = 0;
        for (int s = 0; s < game.count; s++) {
            all += game.choiceCount[s];
        }
        return (double) all / (double) game.count;
    }

    public boolean isConsistent() {
        if (!game.isReady()) {
            return true;
        }
        likeness.sort();
        return agrees('r') && agrees('f') && agrees('s') && agrees('w');
    }

    /** The sweep solves chains too, so what the steps found is put aside before. */
    private boolean agrees(char aim) {
        improver.improve(aim, toldChoice, true, true);
        chain.copyTo(byStep);
        Values byAll = sweep.valuesFor(aim);
        for (int s = 0; s < game.count; s++) {
            if (compareFractions(byStep.up[s], byStep.down[s], byAll.up[s], byAll.down[s]) != 0
                    || byStep.up[s] != byStep.up[likeness.lowest[s]]) {
                return false;
            }
        }
        return aim != 'r' || graphAgrees();
    }

    private boolean graphAgrees() {
        int positive = graph.positive();
        int sure = graph.sure();
        for (int s = 0; s < game.count; s++) {
            if (Game.holds(positive, s) != byStep.up[s] > 0
                    || Game.holds(sure, s) != (byStep.up[s] == byStep.down[s])) {
                return false;
            }
        }
        return true;
    }

    private void findValues(char aim, int state) {
        needSolvable(aim, state);
        improver.improve(aim, toldChoice, true, true);
    }

    private void findResponse(char player, char aim, int state) {
        needPlayer(player);
        needSolvable(aim, state);
        improver.improve(aim, toldChoice, player == 'b', player == 'a');
    }

    private void followChain(char aim, int state) {
        if (aim != 'm' && aim != 'p') {
            needAim(aim);
        }
        needWholeFor(state);
        if (aim == 'm') {
            longRun.findMeans(toldChoice);
        } else if (aim == 'p') {
            longRun.findParity(toldChoice);
        } else {
            chain.evaluate(aim, toldChoice);
        }
    }

    private void findTrace(int state) {
        needWholeFor(state);
        traces.follow(toldChoice);
        if (traces.length[state] == 0) {
            throw new NoSuchElementException("there is no trace");
        }
    }

    private void needSolvable(char aim, int state) {
        needAim(aim);
        needWholeFor(state);
    }

    private void needWholeFor(int state) {
        needState(state);
        needWhole();
    }

    private void needWhole() {
        if (!game.isReady()) {
            throw new IllegalStateException("the game is not whole");
        }
    }

    private void needState(int state) {
        if (!game.hasState(state)) {
            throw new IndexOutOfBoundsException("no such state");
        }
    }

    private void needChoice(int state, int choice) {
        if (!game.hasChoice(state, choice)) {
            throw new IndexOutOfBoundsException("no such state or choice");
        }
    }

    private static void needPlayer(char player) {
        if (player != 'a' && player != 'b') {
            throw new IllegalArgumentException("no such player");
        }
    }

    private static void needAim(char aim) {
        if (aim != 'r' && aim != 'f' && aim != 's' && aim != 'w') {
            throw new IllegalArgumentException("no such aim");
        }
    }

    private static int lowestOf(int set) {
        if (set == 0) {
            throw new NoSuchElementException("the state belongs to no such set");
        }
        return Integer.numberOfTrailingZeros(set);
    }

    private static long commonDivisor(long first, long second) {
        long greater = first;
        long rest = second;
        for (int i = 0; i < MOST_DIVISIONS && rest != 0; i++) {
            long next = greater % rest;
            greater = rest;
            rest = next;
        }
        return greater;
    }

    private static long quotient(long up, long down) {
        return down == 0 ? 0 : up / down;
    }

    private static long lowestAbove(long up, long down) {
        return quotient(up, commonDivisor(up, down));
    }

    private static long lowestBelow(long up, long down) {
        return quotient(down, commonDivisor(up, down));
    }

    /**
     * Compares two fractions that are not negative. Whole parts go first: a product across of the
     * whole fractions could be greater than a long holds, one of the rests can't.
     */
    private static int compareFractions(long up, long down, long otherUp, long otherDown) {
        long units = quotient(up, down);
        long otherUnits = quotient(otherUp, otherDown);
        if (units != otherUnits) {
            return Long.compare(units, otherUnits);
        }
        return Long.compare((up - units * down) * otherDown, (otherUp - otherUnits * otherDown) * down);
    }

    private static float floatOf(long up, long down) {
        return down == 0 ? 0f : (float) up / (float) down;
    }

    /**
     * In doubles all steps but the quotient are exact, and a float has too few bits for the quotient
     * to come so near below a whole number that it is rounded to it.
     */
    private static float restOf(float value) {
        double wide = (double) value;
        long times = (long) (wide / 0.75);
        return (float) (wide - (double) times * 0.75);
    }

    private static long nearestOf(long up, long down) {
        if (down == 0) {
            return 0;
        }
        double exact = (double) up / (double) down;
        long lower = (long) exact;
        double over = exact - (double) lower;
        boolean isUp = over > 0.5 || over == 0.5 && (lower & 1) == 1;
        return isUp ? lower + 1 : lower;
    }

    /** What is held of a game. A move is a choice of a state, numbered through all states. */
    private static final class Game {
        int count;
        int targets;
        int discountAbove = 1;
        int discountBelow = 2;
        int firstWeight = 1;
        int secondWeight = 1;
        /** Counts the changes, so that what was found before one is not taken for what holds now. */
        int changes;
        final boolean[] isOfA = new boolean[MOST_STATES];
        final int[] colour = new int[MOST_STATES];
        final int[] choiceCount = new int[MOST_STATES];
        final int[] firstCost = new int[MOST_MOVES];
        final int[] secondCost = new int[MOST_MOVES];
        final int[] weightSum = new int[MOST_MOVES];
        /** The set of the states, a bit each, to which a move can lead. */
        final int[] leads = new int[MOST_MOVES];
        final int[][] weight = new int[MOST_MOVES][MOST_STATES];

        static int moveOf(int state, int choice) {
            return state * MOST_CHOICES + choice;
        }

        static boolean holds(int set, int state) {
            return (set >> state & 1) == 1;
        }

        boolean hasState(int state) {
            return state >= 0 && state < count;
        }

        boolean hasChoice(int state, int choice) {
            return hasState(state) && choice >= 0 && choice < choiceCount[state];
        }

        boolean isTarget(int state) {
            return holds(targets, state);
        }

        int everyState() {
            return (1 << count) - 1;
        }

        boolean isReady() {
            for (int s = 0; s < count; s++) {
                if (choiceCount[s] == 0) {
                    return false;
                }
                for (int c = 0; c < choiceCount[s]; c++) {
                    if (weightSum[moveOf(s, c)] == 0) {
                        return false;
                    }
                }
            }
            return count > 0;
        }

        int costOf(int move, char aim) {
            if (aim == 'f') {
                return firstCost[move];
            }
            if (aim == 's') {
                return secondCost[move];
            }
            return firstWeight * firstCost[move] + secondWeight * secondCost[move];
        }

        int placeState(boolean isA, int newColour) {
            int state = count;
            isOfA[state] = isA;
            colour[state] = newColour;
            count++;
            changes++;
            return state;
        }

        int placeChoice(int state, int first, int second) {
            int choice = choiceCount[state];
            int move = moveOf(state, choice);
            firstCost[move] = first;
            secondCost[move] = second;
            choiceCount[state]++;
            changes++;
            return choice;
        }

        int placeWeight(int move, int to, int more) {
            weight[move][to] += more;
            weightSum[move] += more;
            leads[move] |= 1 << to;
            changes++;
            return weightSum[move];
        }

        boolean mark(int state, boolean asTarget) {
            boolean before = isTarget(state);
            if (asTarget) {
                targets |= 1 << state;
            } else {
                targets &= ~(1 << state);
            }
            changes++;
            return before;
        }

        int changeDiscount(int newAbove, int newBelow) {
            int before = 10 * discountAbove + discountBelow;
            discountAbove = newAbove;
            discountBelow = newBelow;
            changes++;
            return before;
        }

        int changeWeights(int first, int second) {
            int before = 10 * firstWeight + secondWeight;
            firstWeight = first;
            secondWeight = second;
            changes++;
            return before;
        }
    }

    /** A fraction for each state, not in lowest terms. */
    private static final class Values {
        final long[] up = new long[MOST_STATES];
        final long[] down = new long[MOST_STATES];

        void put(int state, long newUp, long newDown) {
            up[state] = newUp;
            down[state] = newDown;
        }
    }

    /**
     * Linear equations in whole numbers, one for each state, solved without fractions (Bareiss):
     * each division leaves no rest, and each number is a minor of the equations, which for 7 states
     * a long holds. The states are taken in an order, so that equations late in it can be changed
     * without reducing those before them again.
     */
    private static final class Equations {
        int size;
        final int[] order = new int[MOST_STATES];
        final long[][] grid = new long[MOST_STATES][MOST_STATES + 1];
        /** The answers, each of which is still to be divided by the divisor. */
        final long[] answer = new long[MOST_STATES];
        long divisor = 1;

        void fix(int state, long value) {
            long[] row = grid[state];
            for (int i = 0; i < RIGHT; i++) {
                row[i] = 0;
            }
            row[state] = 1;
            row[RIGHT] = value;
        }

        /**
         * Takes the states before a position out of the equation at the position. An equation that
         * vanishes then is that of the last state of a set that is never left and never gets
         * anything: the state gets 0, and the pivot is that of an equation that says this.
         */
        void reduce(int position) {
            int state = order[position];
            long[] row = grid[state];
            long before = 1;
            for (int k = 0; k < position; k++) {
                int out = order[k];
                long[] upper = grid[out];
                long pivot = upper[out];
                long factor = row[out];
                for (int j = k + 1; j < size; j++) {
                    int column = order[j];
                    row[column] = quotient(pivot * row[column] - factor * upper[column], before);
                }
                row[RIGHT] = quotient(pivot * row[RIGHT] - factor * upper[RIGHT], before);
                before = pivot;
            }
            if (row[state] == 0) {
                row[state] = before;
            }
        }

        /** Finds the answers when all equations are reduced. */
        void settle() {
            if (size < 1) {
                return;
            }
            int last = order[size - 1];
            divisor = grid[last][last];
            answer[last] = grid[last][RIGHT];
            for (int i = size - 2; i >= 0; i--) {
                int state = order[i];
                long[] row = grid[state];
                long sum = divisor * row[RIGHT];
                for (int j = i + 1; j < size; j++) {
                    sum -= row[order[j]] * answer[order[j]];
                }
                answer[state] = quotient(sum, row[state]);
            }
        }
    }

    /** What the chain of a pick of choices gets, solved from nothing. */
    private static final class Chain {
        final Game game;
        final Equations equations = new Equations();
        /** The number of the states of 'a', which come first in the order of the equations. */
        int statesOfA;

        Chain(Game game) {
            this.game = game;
        }

        void arrange() {
            int place = 0;
            for (int s = 0; s < game.count; s++) {
                if (game.isOfA[s]) {
                    equations.order[place] = s;
                    place++;
                }
            }
            statesOfA = place;
            for (int s = 0; s < game.count; s++) {
                if (!game.isOfA[s]) {
                    equations.order[place] = s;
                    place++;
                }
            }
            equations.size = place;
        }

        void evaluate(char aim, int[] pick) {
            arrange();
            evaluateFrom(aim, pick, 0);
        }

        /** Solves the chain anew where only choices at or behind a position have changed. */
        void evaluateFrom(char aim, int[] pick, int from) {
            for (int i = from; i < equations.size; i++) {
                int state = equations.order[i];
                int move = Game.moveOf(state, pick[state]);
                if (aim == 'r') {
                    reachEquation(state, move, game.targets);
                } else {
                    costEquation(state, move, aim);
                }
                equations.reduce(i);
            }
            equations.settle();
        }

        /** Solves for the chance that any state of the set is ever reached. */
        void evaluateReach(int goal, int[] pick) {
            arrange();
            for (int s = 0; s < game.count; s++) {
                reachEquation(s, Game.moveOf(s, pick[s]), goal);
            }
            solveAll();
        }

        void solveAll() {
            for (int i = 0; i < equations.size; i++) {
                equations.reduce(i);
            }
            equations.settle();
        }

        void reachEquation(int state, int move, int goal) {
            if (Game.holds(goal, state)) {
                equations.fix(state, 1);
            } else {
                step(state, move, 1, 1);
            }
        }

        void costEquation(int state, int move, char aim) {
            step(state, move, game.discountAbove, game.discountBelow);
            equations.grid[state][RIGHT] =
                    (long) game.discountBelow * game.weightSum[move] * game.costOf(move, aim);
        }

        /** What a state gets is a fraction of what is got, by chance, from the next state. */
        void step(int state, int move, int above, int below) {
            long[] row = equations.grid[state];
            for (int t = 0; t < game.count; t++) {
                row[t] = -above * game.weight[move][t];
            }
            row[state] += below * game.weightSum[move];
            row[RIGHT] = 0;
        }

        long expected(int move) {
            long sum = 0;
            for (int t = 0; t < game.count; t++) {
                sum += game.weight[move][t] * equations.answer[t];
            }
            return sum;
        }

        /**
         * What a move and the answers behind it promise: to be divided by the divisor, the move's
         * sum of weights and, but for 'r', what is below in the discount.
         */
        long ahead(char aim, int move) {
            if (aim == 'r') {
                return expected(move);
            }
            long cost = (long) game.weightSum[move] * game.costOf(move, aim);
            return game.discountAbove * expected(move) + game.discountBelow * cost * equations.divisor;
        }

        boolean isGood(char aim, int state, int move) {
            if (aim == 'r' && game.isTarget(state)) {
                return true;
            }
            long kept = equations.answer[state] * game.weightSum[move];
            return (aim == 'r' ? kept : kept * game.discountBelow) == ahead(aim, move);
        }

        boolean isNought(int state) {
            return equations.answer[state] == 0;
        }

        long toldAbove(int state) {
            return lowestAbove(equations.answer[state], equations.divisor);
        }

        long toldBelow(int state) {
            return lowestBelow(equations.answer[state], equations.divisor);
        }

        void copyTo(Values values) {
            for (int s = 0; s < game.count; s++) {
                values.put(s, equations.answer[s], equations.divisor);
            }
        }
    }

    /** What a chain gets in the long run, in its closed sets, for the aims 'm' and 'p'. */
    private static final class LongRun {
        final Game game;
        final Graph graph;
        final Chain chain;
        final int[] closed = new int[MOST_STATES];
        final long[] costs = new long[MOST_STATES];
        final Values means = new Values();

        LongRun(Game game, Graph graph, Chain chain) {
            this.game = game;
            this.graph = graph;
            this.chain = chain;
        }

        void findClosed(int[] pick) {
            graph.follow(pick);
            for (int s = 0; s < game.count; s++) {
                closed[s] = graph.closedSet(s);
            }
        }

        void findParity(int[] pick) {
            findClosed(pick);
            int even = 0;
            for (int s = 0; s < game.count; s++) {
                if (closed[s] != 0 && leastColour(closed[s]) % 2 == 0) {
                    even |= 1 << s;
                }
            }
            chain.evaluateReach(even, pick);
        }

        int leastColour(int set) {
            int least = MOST_COLOUR;
            for (int s = 0; s < game.count; s++) {
                if (Game.holds(set, s)) {
                    least = Math.min(least, game.colour[s]);
                }
            }
            return least;
        }

        void findMeans(int[] pick) {
            findClosed(pick);
            chain.arrange();
            solveReturns(pick, true);
            for (int s = 0; s < game.count; s++) {
                costs[s] = chain.equations.answer[s];
            }
            solveReturns(pick, false);
            for (int s = 0; s < game.count; s++) {
                if (isReturn(s)) {
                    findMean(s, Game.moveOf(s, pick[s]));
                }
            }
            spreadMeans(pick);
        }

        /** Whether the state is the one of a closed set at which its rounds begin and end. */
        boolean isReturn(int state) {
            return closed[state] != 0 && Integer.numberOfTrailingZeros(closed[state]) == state;
        }

        /** Solves for the expected cost, or number of steps, until the return of a closed set. */
        void solveReturns(int[] pick, boolean isByCost) {
            for (int s = 0; s < game.count; s++) {
                if (closed[s] == 0 || isReturn(s)) {
                    chain.equations.fix(s, 0);
                } else {
                    int move = Game.moveOf(s, pick[s]);
                    chain.step(s, move, 1, 1);
                    chain.equations.grid[s][RIGHT] =
                            game.weightSum[move] * (isByCost ? game.firstCost[move] : 1);
                }
            }
            chain.solveAll();
        }

        /** The mean of a closed set is the cost of one round from its return, by the round's steps. */
        void findMean(int state, int move) {
            long cost = game.weightSum[move] * game.firstCost[move] * chain.equations.divisor;
            long steps = game.weightSum[move] * chain.equations.divisor + chain.expected(move);
            for (int t = 0; t < game.count; t++) {
                cost += game.weight[move][t] * costs[t];
            }
            means.put(state, lowestAbove(cost, steps), lowestBelow(cost, steps));
        }

        /** Means are made whole numbers by what is common below, which the divisor takes up then. */
        void spreadMeans(int[] pick) {
            long common = 1;
            for (int s = 0; s < game.count; s++) {
                if (isReturn(s)) {
                    common *= lowestBelow(common, means.down[s]);
                }
            }
            for (int s = 0; s < game.count; s++) {
                if (closed[s] == 0) {
                    chain.step(s, Game.moveOf(s, pick[s]), 1, 1);
                } else {
                    int home = Integer.numberOfTrailingZeros(closed[s]);
                    chain.equations.fix(s, means.up[home] * quotient(common, means.down[home]));
                }
            }
            chain.solveAll();
            chain.equations.divisor *= common;
        }
    }

    /** Strategies that are made better step by step until they can't be. */
    private static final class Improver {
        final Game game;
        final Graph graph;
        final Chain chain;
        final int[] pick = new int[MOST_STATES];

        Improver(Game game, Graph graph, Chain chain) {
            this.game = game;
            this.graph = graph;
            this.chain = chain;
        }

        /**
         * Leaves the chain solved for what is best for the players who are free, where the others
         * keep to what is told.
         */
        void improve(char aim, int[] told, boolean isFreeA, boolean isFreeB) {
            for (int s = 0; s < game.count; s++) {
                boolean isFree = game.isOfA[s] ? isFreeA : isFreeB;
                pick[s] = isFree ? 0 : told[s];
            }
            chain.arrange();
            boolean isBetter = true;
            for (int round = 0; isBetter && round < MOST_STRATEGIES; round++) {
                respond(aim, isFreeB);
                isBetter = isFreeA && change(aim, true);
            }
        }

        /** Makes the strategy of 'b' best against that of 'a', and solves the chain. */
        void respond(char aim, boolean isFreeB) {
            if (aim == 'r' && isFreeB) {
                graph.stayAway(pick);
            }
            boolean isBetter = true;
            for (int round = 0; isBetter && round < MOST_STRATEGIES; round++) {
                chain.evaluateFrom(aim, pick, 0);
                isBetter = isFreeB && change(aim, false);
            }
        }

        /** Changes the choices of a player that can be better, and tells whether there were any. */
        boolean change(char aim, boolean isA) {
            boolean isChanged = false;
            for (int s = 0; s < game.count; s++) {
                boolean isMine = game.isOfA[s] == isA && !(aim == 'r' && game.isTarget(s));
                for (int c = 0; isMine && c < game.choiceCount[s]; c++) {
                    int move = Game.moveOf(s, c);
                    int held = Game.moveOf(s, pick[s]);
                    long found = chain.ahead(aim, move) * game.weightSum[held];
                    long toBeat = chain.ahead(aim, held) * game.weightSum[move];
                    if (isA ? found > toBeat : found < toBeat) {
                        pick[s] = c;
                        isChanged = true;
                    }
                }
            }
            return isChanged;
        }
    }

    /**
     * Values found by all strategies. Those of 'b' change fastest, so that what is least against one
     * strategy of 'a' is known before the next one comes. What was found is kept until a change.
     */
    private static final class Sweep {
        final Game game;
        final Chain chain;
        final int[] pick = new int[MOST_STATES];
        final Values least = new Values();
        final Values[] kept = new Values[SOLVED_AIMS];
        /** The count of changes at which the values of an aim were found. */
        final int[] keptAt = new int[SOLVED_AIMS];

        Sweep(Game game, Chain chain) {
            this.game = game;
            this.chain = chain;
            for (int i = 0; i < SOLVED_AIMS; i++) {
                kept[i] = new Values();
                keptAt[i] = -1;
            }
        }

        Values valuesFor(char aim) {
            int place = aim == 'r' ? 0 : aim == 'f' ? 1 : aim == 's' ? 2 : 3;
            Values values = kept[place];
            if (keptAt[place] != game.changes) {
                sweepAll(aim, values);
                keptAt[place] = game.changes;
            }
            return values;
        }

        void sweepAll(char aim, Values best) {
            for (int s = 0; s < game.count; s++) {
                pick[s] = 0;
            }
            chain.arrange();
            boolean isFirstReply = true;
            boolean isFirstStrategy = true;
            int from = 0;
            for (int turn = 0; from >= 0 && turn < MOST_STRATEGIES; turn++) {
                chain.evaluateFrom(aim, pick, from);
                takeLeast(isFirstReply);
                from = advance();
                isFirstReply = from < chain.statesOfA;
                if (isFirstReply) {
                    takeGreatest(best, isFirstStrategy);
                    isFirstStrategy = false;
                }
            }
        }

        void takeLeast(boolean isFirst) {
            long divisor = chain.equations.divisor;
            for (int s = 0; s < game.count; s++) {
                long found = chain.equations.answer[s];
                if (isFirst || compareFractions(found, divisor, least.up[s], least.down[s]) < 0) {
                    least.put(s, found, divisor);
                }
            }
        }

        void takeGreatest(Values best, boolean isFirst) {
            for (int s = 0; s < game.count; s++) {
                if (isFirst || compareFractions(least.up[s], least.down[s], best.up[s], best.down[s]) > 0) {
                    best.put(s, least.up[s], least.down[s]);
                }
            }
        }

        /** Takes the next strategies; the first position that changed, or -1 behind the last ones. */
        int advance() {
            for (int i = chain.equations.size - 1; i >= 0; i--) {
                int state = chain.equations.order[i];
                pick[state]++;
                if (pick[state] < game.choiceCount[state]) {
                    return i;
                }
                pick[state] = 0;
            }
            return -1;
        }
    }

    /** Tells the lowest good choices for an aim. */
    private static final class Teller {
        final Game game;
        final Chain chain;
        final Improver improver;
        /** The rank of a state for 'r', -1 for none. */
        final int[] rank = new int[MOST_STATES];

        Teller(Game game, Chain chain, Improver improver) {
            this.game = game;
            this.chain = chain;
            this.improver = improver;
        }

        /** Returns how many told choices became others. */
        int tellBest(char aim, int[] told) {
            improver.improve(aim, told, true, true);
            if (aim == 'r') {
                rankStates();
            }
            int changed = 0;
            for (int s = 0; s < game.count; s++) {
                boolean isToSink = aim == 'r' && game.isOfA[s] && !game.isTarget(s) && !chain.isNought(s);
                int choice = lowestGood(aim, s, isToSink ? lowerThan(s) : game.everyState());
                if (choice != told[s]) {
                    changed++;
                }
                told[s] = choice;
            }
            return changed;
        }

        /** The lowest good choice that can lead into a set. */
        int lowestGood(char aim, int state, int into) {
            for (int c = 0; c < game.choiceCount[state]; c++) {
                int move = Game.moveOf(state, c);
                if (chain.isGood(aim, state, move) && (game.leads[move] & into) != 0) {
                    return c;
                }
            }
            return 0;
        }

        int lowerThan(int state) {
            int lower = 0;
            for (int s = 0; s < game.count; s++) {
                if (rank[s] >= 0 && rank[s] < rank[state]) {
                    lower |= 1 << s;
                }
            }
            return lower;
        }

        void rankStates() {
            for (int s = 0; s < game.count; s++) {
                rank[s] = game.isTarget(s) ? 0 : -1;
            }
            int ranked = game.targets;
            for (int round = 1; round <= game.count; round++) {
                int before = ranked;
                for (int s = 0; s < game.count; s++) {
                    if (rank[s] < 0 && !chain.isNought(s) && isDrawn(s, before)) {
                        rank[s] = round;
                        ranked |= 1 << s;
                    }
                }
            }
        }

        /** Whether a good choice of 'a', or each good one of 'b', can lead into a set. */
        boolean isDrawn(int state, int into) {
            boolean isA = game.isOfA[state];
            for (int c = 0; c < game.choiceCount[state]; c++) {
                int move = Game.moveOf(state, c);
                if (chain.isGood('r', state, move) && (game.leads[move] & into) != 0 == isA) {
                    return isA;
                }
            }
            return !isA;
        }
    }

    /** What is found by the graph alone, where only it counts to which states a choice can lead. */
    private static final class Graph {
        final Game game;
        /** For each state, the set of those that can be reached by one or more steps. */
        final int[] reach = new int[MOST_STATES];
        final double[] bounds = new double[MOST_STATES];
        final double[] nextBounds = new double[MOST_STATES];

        Graph(Game game) {
            this.game = game;
        }

        /** The states with a value greater than 0 for 'r'. */
        int positive() {
            return drawnWithin(game.everyState());
        }

        /** The states with a value of 1 for 'r': what can be drawn to targets without ever leaving. */
        int sure() {
            int within = game.everyState();
            for (int round = 0; round < game.count; round++) {
                within = drawnWithin(within);
            }
            return within;
        }

        /** The states from which 'a' can come to a target, with luck, and stays in a set for sure. */
        int drawnWithin(int within) {
            int drawn = game.targets & within;
            for (int round = 0; round < game.count; round++) {
                for (int s = 0; s < game.count; s++) {
                    if (Game.holds(within, s) && isDrawn(s, drawn, within)) {
                        drawn |= 1 << s;
                    }
                }
            }
            return drawn;
        }

        boolean isDrawn(int state, int into, int within) {
            boolean isA = game.isOfA[state];
            for (int c = 0; c < game.choiceCount[state]; c++) {
                int leads = game.leads[Game.moveOf(state, c)];
                boolean isSo = (leads & into) != 0 && (leads & ~within) == 0;
                if (isSo == isA) {
                    return isA;
                }
            }
            return !isA;
        }

        /**
         * Where 'b' can stay away from targets for good against the pick of 'a', the pick of 'b'
         * becomes to do so. Steps alone may not find this: to stay can look as good as to go on, as
         * long as the states look as if they led to a target.
         */
        void stayAway(int[] pick) {
            int drawn = game.targets;
            for (int round = 0; round < game.count; round++) {
                for (int s = 0; s < game.count; s++) {
                    boolean isSo = game.isOfA[s]
                            ? (game.leads[Game.moveOf(s, pick[s])] & drawn) != 0
                            : isDrawn(s, drawn, game.everyState());
                    if (isSo) {
                        drawn |= 1 << s;
                    }
                }
            }
            for (int s = 0; s < game.count; s++) {
                if (!game.isOfA[s] && !Game.holds(drawn, s)) {
                    pick[s] = choiceWithout(s, drawn);
                }
            }
        }

        /** The lowest choice that can't lead into a set. */
        int choiceWithout(int state, int set) {
            for (int c = 0; c < game.choiceCount[state]; c++) {
                if ((game.leads[Game.moveOf(state, c)] & set) == 0) {
                    return c;
                }
            }
            return 0;
        }

        /** Finds what can be reached in the chain of a pick. */
        void follow(int[] pick) {
            for (int s = 0; s < game.count; s++) {
                reach[s] = game.leads[Game.moveOf(s, pick[s])];
            }
            join();
        }

        void join() {
            for (int over = 0; over < game.count; over++) {
                for (int s = 0; s < game.count; s++) {
                    if (Game.holds(reach[s], over)) {
                        reach[s] |= reach[over];
                    }
                }
            }
        }

        /** The states that can be reached from a state and from which it can be reached. */
        int mutual(int state) {
            int set = 0;
            for (int s = 0; s < game.count; s++) {
                if (Game.holds(reach[state], s) && Game.holds(reach[s], state)) {
                    set |= 1 << s;
                }
            }
            return set;
        }

        /** The closed set of a state in the chain that was followed, empty if there is none. */
        int closedSet(int state) {
            int set = mutual(state);
            return set == reach[state] ? set : 0;
        }

        /** The greatest end component of a state, empty if there is none. */
        int endSet(int state) {
            int set = game.everyState();
            for (int round = 0; round <= game.count; round++) {
                for (int s = 0; s < game.count; s++) {
                    reach[s] = Game.holds(set, s) ? leadsWithin(s, set) : 0;
                }
                join();
                set = mutual(state);
            }
            return set;
        }

        int leadsWithin(int state, int set) {
            int all = 0;
            for (int c = 0; c < game.choiceCount[state]; c++) {
                int leads = game.leads[Game.moveOf(state, c)];
                if ((leads & ~set) == 0) {
                    all |= leads;
                }
            }
            return all;
        }

        double boundAfter(int state, int rounds) {
            for (int s = 0; s < game.count; s++) {
                bounds[s] = game.isTarget(s) ? 1.0 : 0.0;
            }
            for (int round = 0; round < rounds && round < MOST_ROUNDS; round++) {
                for (int s = 0; s < game.count; s++) {
                    nextBounds[s] = game.isTarget(s) ? 1.0 : nextBound(s);
                }
                for (int s = 0; s < game.count; s++) {
                    bounds[s] = nextBounds[s];
                }
            }
            return bounds[state];
        }

        double nextBound(int state) {
            double best = boundOfMove(Game.moveOf(state, 0));
            for (int c = 1; c < game.choiceCount[state]; c++) {
                double found = boundOfMove(Game.moveOf(state, c));
                if (game.isOfA[state] ? found > best : found < best) {
                    best = found;
                }
            }
            return best;
        }

        double boundOfMove(int move) {
            if (game.weightSum[move] == 0) {
                return 0.0;
            }
            double sum = 0.0;
            for (int t = 0; t < game.count; t++) {
                sum = sum + (double) game.weight[move][t] * bounds[t];
            }
            return sum / (double) game.weightSum[move];
        }
    }

    /** Puts states into as few classes of like states as possible. */
    private static final class Likeness {
        final Game game;
        /** For each state, the lowest one of its class. */
        final int[] lowest = new int[MOST_STATES];
        final int[] finer = new int[MOST_STATES];

        Likeness(Game game) {
            this.game = game;
        }

        /** From classes by looks alone, which are split until the choices of like states agree. */
        void sort() {
            for (int s = 0; s < game.count; s++) {
                lowest[s] = lowestLook(s);
            }
            for (int round = 0; round < game.count; round++) {
                for (int s = 0; s < game.count; s++) {
                    finer[s] = lowestLike(s);
                }
                for (int s = 0; s < game.count; s++) {
                    lowest[s] = finer[s];
                }
            }
        }

        int lowestLook(int state) {
            for (int s = 0; s < state; s++) {
                if (game.isOfA[s] == game.isOfA[state] && game.colour[s] == game.colour[state]
                        && game.isTarget(s) == game.isTarget(state)) {
                    return s;
                }
            }
            return state;
        }

        int lowestLike(int state) {
            for (int s = 0; s < state; s++) {
                if (lowest[s] == lowest[state] && isAnswered(s, state) && isAnswered(state, s)) {
                    return s;
                }
            }
            return state;
        }

        /** Whether for each choice of a state the other one has a like one. */
        boolean isAnswered(int state, int other) {
            for (int c = 0; c < game.choiceCount[state]; c++) {
                if (!hasLike(other, Game.moveOf(state, c))) {
                    return false;
                }
            }
            return true;
        }

        boolean hasLike(int state, int move) {
            for (int c = 0; c < game.choiceCount[state]; c++) {
                if (isLike(Game.moveOf(state, c), move)) {
                    return true;
                }
            }
            return false;
        }

        boolean isLike(int move, int other) {
            if (game.firstCost[move] != game.firstCost[other] || game.secondCost[move] != game.secondCost[other]) {
                return false;
            }
            for (int s = 0; s < game.count; s++) {
                int chance = weightInto(s, move) * game.weightSum[other];
                if (chance != weightInto(s, other) * game.weightSum[move]) {
                    return false;
                }
            }
            return true;
        }

        /** The weight of a move for a whole class, told by its lowest state; 0 for other states. */
        int weightInto(int low, int move) {
            int sum = 0;
            for (int t = 0; t < game.count; t++) {
                if (lowest[t] == low) {
                    sum += game.weight[move][t];
                }
            }
            return sum;
        }

        int howMany() {
            int number = 0;
            for (int s = 0; s < game.count; s++) {
                if (lowest[s] == s) {
                    number++;
                }
            }
            return number;
        }
    }

    /**
     * The weightiest traces of a chain from all states. No chance is greater than 1, so a way that
     * comes to a state again is never better than the one without the loop: what stands behind a
     * state on its best trace is the best trace of the next state.
     */
    private static final class Traces {
        final Game game;
        final Values weights = new Values();
        /** The number of states of the weightiest trace, 0 if there is none. */
        final int[] length = new int[MOST_STATES];

        Traces(Game game) {
            this.game = game;
        }

        void follow(int[] pick) {
            for (int s = 0; s < game.count; s++) {
                length[s] = game.isTarget(s) ? 1 : 0;
                weights.put(s, length[s], 1);
            }
            for (int round = 0; round < game.count; round++) {
                for (int s = 0; s < game.count; s++) {
                    if (!game.isTarget(s)) {
                        lengthen(s, Game.moveOf(s, pick[s]));
                    }
                }
            }
        }

        /** Takes a better trace by a next state, if there is one. */
        void lengthen(int state, int move) {
            for (int t = 0; t < game.count; t++) {
                if (game.weight[move][t] > 0 && length[t] > 0) {
                    long up = game.weight[move][t] * weights.up[t];
                    long down = game.weightSum[move] * weights.down[t];
                    int sign = compareFractions(up, down, weights.up[state], weights.down[state]);
                    if (sign > 0 || sign == 0 && length[t] + 1 < length[state]) {
                        weights.put(state, up, down);
                        length[state] = length[t] + 1;
                    }
                }
            }
        }

        int stateAt(int state, int index, int[] pick) {
            int at = state;
            for (int i = 0; i < index && i < MOST_STATES; i++) {
                at = nextOf(at, Game.moveOf(at, pick[at]));
            }
            return at;
        }

        /** The lowest next state by which the trace is as good, and as short, as it can be. */
        int nextOf(int state, int move) {
            for (int t = 0; t < game.count; t++) {
                if (game.weight[move][t] > 0 && length[t] > 0 && length[t] == length[state] - 1) {
                    long up = game.weight[move][t] * weights.up[t];
                    long down = game.weightSum[move] * weights.down[t];
                    if (compareFractions(up, down, weights.up[state], weights.down[state]) == 0) {
                        return t;
                    }
                }
            }
            return state;
        }
    }
}
