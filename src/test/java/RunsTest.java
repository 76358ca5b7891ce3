import java.util.List;
import java.util.Random;

/**
 * Runs of calls in any order, as long as the document allows: whatever an object was called for
 * before, refused calls among them, it must answer what a new object with the same game answers.
 */
public final class RunsTest {
    private static final int MOST_CALLS = 512;
    private static final List<Calls.OnState> READING = List.of(
            new Calls.OnState(9, "choices", Chanceledger::choices),
            new Calls.OnState(10, "chance", (g, s) -> g.chance(s, 0, 0)),
            new Calls.OnState(19, "bound", (g, s) -> g.bound(s, 9)),
            new Calls.OnState(24, "told", Chanceledger::told),
            new Calls.OnState(32, "classes", (g, s) -> g.classes()),
            new Calls.OnState(34, "traceAt", (g, s) -> g.traceAt(s, 1)),
            new Calls.OnState(38, "isConsistent", (g, s) -> g.isConsistent()));

    private final Random random;
    /** What the object must hold; the told choices are those that it had last. */
    private final Oracle oracle;
    private final Chanceledger game;
    private int calls;

    private RunsTest(int number) {
        random = new Random(number);
        oracle = OracleTest.made(number);
        game = oracle.game();
        calls = callsToMake();
    }

    public static void main(String[] args) {
        for (int number = 1; number <= 120; number++) {
            new RunsTest(number).run("run " + number);
        }
        Check.end("RunsTest");
    }

    private int callsToMake() {
        int made = 3 * oracle.n + 2;
        for (List<Oracle.Choice> choices : oracle.choices) {
            for (Oracle.Choice choice : choices) {
                made++;
                for (int weight : choice.weight) {
                    made += weight > 0 ? 1 : 0;
                }
            }
        }
        return made;
    }

    private void run(String name) {
        for (; calls < MOST_CALLS; calls++) {
            String at = name + " call " + calls;
            int kind = random.nextInt(20);
            if (kind < 2) {
                change(at);
            } else if (kind == 2) {
                told(at);
            } else if (kind == 3) {
                refuse(at);
            } else {
                read(at);
            }
        }
    }

    private int state() {
        return random.nextInt(oracle.n);
    }

    private void change(String at) {
        int state = state();
        switch (random.nextInt(5)) {
            case 0:
                boolean isTarget = random.nextBoolean();
                Check.due(at + " setTarget", game.setTarget(state, isTarget), oracle.target[state]);
                oracle.target[state] = isTarget;
                break;
            case 1:
                Check.due(at + " setDiscount", game.setDiscount(1, 2), 10 * oracle.discountAbove + oracle.discountBelow);
                oracle.discountAbove = 1;
                oracle.discountBelow = 2;
                if (calls < MOST_CALLS - 1) {
                    calls++;
                    oracle.discountAbove += random.nextInt(2);
                    oracle.discountBelow = 3;
                    Check.due(at + " setDiscount", game.setDiscount(oracle.discountAbove, 3), 12);
                }
                break;
            case 2:
                int before = 10 * oracle.firstWeight + oracle.secondWeight;
                oracle.firstWeight = random.nextInt(4);
                oracle.secondWeight = random.nextInt(4);
                Check.due(at + " setWeights", game.setWeights(oracle.firstWeight, oracle.secondWeight), before);
                break;
            case 3:
                addChoice(at, state);
                break;
            default:
                addWeight(at, state);
        }
    }

    /** The weight goes with it, as the oracle holds whole games only. */
    private void addChoice(String at, int state) {
        List<Oracle.Choice> choices = oracle.choices.get(state);
        if (choices.size() == 3) {
            Check.thrown(at + " addChoice", Edge.STATE, () -> game.addChoice(state, 0, 0));
        } else if (calls < MOST_CALLS - 2) {
            calls += 2;
            Oracle.Choice added = new Oracle.Choice(random.nextInt(10), random.nextInt(10), new int[oracle.n]);
            int to = state();
            added.weight[to] = 6;
            Check.due(at + " addChoice", game.addChoice(state, added.first, added.second), choices.size());
            Check.thrown(at + " above of a part", Edge.STATE, () -> game.above('f', state));
            Check.due(at + " addWeight", game.addWeight(state, choices.size(), to, 6), 6);
            choices.add(added);
        }
    }

    private void addWeight(String at, int state) {
        int number = random.nextInt(oracle.choices.get(state).size());
        int[] weight = oracle.choice(state, number).weight;
        int to = state();
        int sum = 1;
        for (int each : weight) {
            sum += each;
        }
        if (sum > 6) {
            Check.thrown(at + " addWeight", Edge.STATE, () -> game.addWeight(state, number, to, 1));
        } else {
            weight[to]++;
            Check.due(at + " addWeight", game.addWeight(state, number, to, 1), sum);
        }
    }

    private void told(String at) {
        int state = state();
        if (random.nextBoolean()) {
            int choice = random.nextInt(oracle.choices.get(state).size());
            Check.due(at + " tell", game.tell(state, choice), oracle.told[state]);
            oracle.told[state] = choice;
        } else {
            char aim = "rfsw".charAt(random.nextInt(4));
            Chanceledger fresh = oracle.game();
            Check.due(at + " solve " + aim, game.solve(aim), fresh.solve(aim));
            for (int s = 0; s < oracle.n; s++) {
                oracle.told[s] = fresh.told(s);
            }
        }
    }

    private void refuse(String at) {
        int wrong = random.nextBoolean() ? -1 : oracle.n;
        Calls.OnState call = Calls.ON_ANY.get(random.nextInt(Calls.ON_ANY.size()));
        Calls.ForAim forAim = Calls.FOR_AIMS.get(random.nextInt(Calls.FOR_AIMS.size()));
        switch (random.nextInt(5)) {
            case 0: Check.thrown(at + call.name(), Edge.INDEX, () -> call.act().on(game, wrong)); break;
            case 1: Check.thrown(at + forAim.name(), Edge.INDEX, () -> forAim.act().on(game, 'r', wrong)); break;
            case 2: Check.thrown(at + forAim.name(), Edge.ARGUMENT, () -> forAim.act().on(game, 'x', 0)); break;
            case 3: Check.thrown(at + " setDiscount", Edge.ARGUMENT, () -> game.setDiscount(2, 2)); break;
            default: Check.thrown(at + " setWeights", Edge.ARGUMENT, () -> game.setWeights(3, 4));
        }
    }

    private void read(String at) {
        int state = state();
        if (random.nextInt(3) > 0) {
            Calls.ForAim call = Calls.FOR_AIMS.get(random.nextInt(Calls.FOR_AIMS.size()));
            char aim = call.aims().charAt(random.nextInt(call.aims().length()));
            String due = Picture.answer(() -> call.act().on(oracle.game(), aim, state));
            Check.due(at + " " + call.name() + aim + state, Picture.answer(() -> call.act().on(game, aim, state)), due);
        } else {
            List<Calls.OnState> from = random.nextBoolean() ? READING : Calls.ON_WHOLE;
            Calls.OnState call = from.get(random.nextInt(from.size()));
            String due = Picture.answer(() -> call.act().on(oracle.game(), state));
            Check.due(at + " " + call.name() + state, Picture.answer(() -> call.act().on(game, state)), due);
        }
    }
}
