/**
 * Many small games, made by a fixed rule, in which every answer of the program is held against the
 * oracle's. An argument tells how many games there are to be, a second one where to begin.
 */
public final class OracleTest {
    private static final String AIMS = "rfsw";
    private static long seed;

    private static int below(int limit) {
        seed = seed * 6364136223846793005L + 1442695040888963407L;
        return (int) ((seed >>> 33) % limit);
    }

    public static void main(String[] args) {
        int games = args.length > 0 ? Integer.parseInt(args[0]) : 250;
        int begin = args.length > 1 ? Integer.parseInt(args[1]) : 1;
        for (int i = begin; i < begin + games; i++) {
            playGame("game " + i, made(i));
        }
        Check.end("OracleTest");
    }

    /** Each part has an object of its own, so that none is called more often than the document allows. */
    private static void playGame(String name, Oracle oracle) {
        Oracle changed = changed(oracle);
        for (int i = 0; i < AIMS.length(); i++) {
            char aim = AIMS.charAt(i);
            Fraction[] before = oracle.values(aim);
            Fraction[] after = changed.values(aim);
            Chanceledger game = oracle.game();
            compareValues(name + " " + aim, game, oracle, aim, before);
            changed.layOver(game);
            compareValues(name + " changed " + aim, game, changed, aim, after);
            solve(name + " solve " + aim, oracle.game(), oracle, aim, before);
            compareTold(name + " solved " + aim, oracle.game(), oracle);
            solve(name + " changed solve " + aim, changed.game(), changed, aim, after);
            compareTold(name + " changed solved " + aim, changed.game(), changed);
        }
        Chanceledger game = oracle.game();
        compareSets(name, game, oracle);
        changed.layOver(game);
        compareSets(name + " changed", game, changed);
        told(oracle);
        compareTold(name + " told", oracle.game(), oracle);
    }

    static Oracle made(int number) {
        seed = number * 7919L;
        below(2);
        Oracle oracle = new Oracle(1 + below(7));
        int colours = 1 + below(4);
        int kind = below(5);
        for (int s = 0; s < oracle.n; s++) {
            oracle.player[s] = kind == 0 ? 'a' : kind == 1 ? 'b' : below(2) == 0 ? 'a' : 'b';
            oracle.colour[s] = below(colours);
            oracle.target[s] = below(4) == 0;
        }
        makeChoices(oracle);
        return oracle;
    }

    /** Few costs and few next states make ties, which are where strategies are told apart. */
    private static void makeChoices(Oracle oracle) {
        int costs = below(2) == 0 ? 2 : 10;
        int weights = below(3) == 0 ? 1 : 1 + below(6);
        int most = oracle.n > 5 ? 2 : 3;
        for (int s = 0; s < oracle.n; s++) {
            int choices = 1 + below(most);
            for (int c = 0; c < choices; c++) {
                int[] weight = new int[oracle.n];
                oracle.choices.get(s).add(new Oracle.Choice(below(costs), below(costs), weight));
                int sum = 1 + below(weights);
                for (int i = 0; i < sum; i++) {
                    weight[below(oracle.n)]++;
                }
            }
        }
    }

    private static Oracle changed(Oracle oracle) {
        Oracle changed = oracle.copy();
        int below = 2 + below(2);
        changed.discountAbove = 1 + below(below - 1);
        changed.discountBelow = below;
        changed.firstWeight = below(4);
        changed.secondWeight = below(4);
        int s = below(oracle.n);
        changed.target[s] = !changed.target[s];
        told(changed);
        return changed;
    }

    private static void told(Oracle oracle) {
        for (int s = 0; s < oracle.n; s++) {
            oracle.told[s] = below(oracle.choices.get(s).size());
        }
    }

    /** By all strategies first, so that nothing can be left over from the other way. */
    private static void compareValues(String name, Chanceledger game, Oracle oracle, char aim, Fraction[] values) {
        for (int s = 0; s < oracle.n; s++) {
            Check.due(name + " by all " + s, Games.byAll(game, aim, s), values[s].toString());
        }
        for (int s = 0; s < oracle.n; s++) {
            String at = name + " state " + s;
            Fraction value = values[s];
            long above = value.up.longValueExact();
            long below = value.down.longValueExact();
            Check.due(at + " value", Games.value(game, aim, s), value.toString());
            float asFloat = (float) above / (float) below;
            Check.due(at + " float", game.valueFloat(aim, s), asFloat);
            Check.due(at + " rest", game.restFloat(aim, s), asFloat % 0.75f);
            Check.due(at + " rounded", game.rounded(aim, s), (long) Math.rint((double) above / (double) below));
            if (aim == 'r') {
                Check.due(at + " isZero", game.isZero(s), value.isZero());
                Check.due(at + " isOne", game.isOne(s), value.equals(Fraction.ONE));
                int rounds = below(61);
                Check.due(at + " bound " + rounds, game.bound(s, rounds), oracle.bound(s, rounds));
            }
        }
    }

    private static void solve(String name, Chanceledger game, Oracle oracle, char aim, Fraction[] values) {
        int[] solved = oracle.solved(aim, values);
        int others = 0;
        for (int s = 0; s < oracle.n; s++) {
            others += solved[s] != oracle.told[s] ? 1 : 0;
            oracle.told[s] = solved[s];
        }
        Check.due(name, game.solve(aim), others);
        for (int s = 0; s < oracle.n; s++) {
            Check.due(name + " told " + s, game.told(s), solved[s]);
            Check.due(name + " chain " + s, Games.chain(game, aim, s), values[s].toString());
        }
    }

    private static void compareTold(String name, Chanceledger game, Oracle oracle) {
        for (char aim : (AIMS + "mp").toCharArray()) {
            Fraction[] chain = oracle.chain(aim, oracle.told);
            for (int s = 0; s < oracle.n; s++) {
                Check.due(name + " chain " + aim + s, Games.chain(game, aim, s), chain[s].toString());
            }
        }
        for (char aim : AIMS.toCharArray()) {
            Fraction[] keptByA = oracle.response('a', aim);
            Fraction[] keptByB = oracle.response('b', aim);
            for (int s = 0; s < oracle.n; s++) {
                Check.due(name + " response a" + aim + s, Games.response(game, 'a', aim, s), keptByA[s].toString());
                Check.due(name + " response b" + aim + s, Games.response(game, 'b', aim, s), keptByB[s].toString());
            }
        }
        for (int s = 0; s < oracle.n; s++) {
            int closed = Oracle.lowest(oracle.closedSet(oracle.told, s));
            int state = s;
            dueOrNone(name + " closedOf " + s, closed, () -> game.closedOf(state));
            compareTrace(name + " trace " + s, game, oracle.trace(s), s);
        }
    }

    private static void compareTrace(String name, Chanceledger game, Oracle.Trace trace, int state) {
        int length = trace.states.size();
        dueOrNone(name, length == 0 ? -1 : length, () -> game.traceLength(state));
        for (int i = -1; i <= length; i++) {
            int index = i;
            int due = i < 0 || i == length ? -1 : trace.states.get(i);
            dueOrNone(name + " at " + i, due, () -> game.traceAt(state, index));
        }
        if (length > 0) {
            String weight = game.traceAbove(state) + "/" + game.traceBelow(state);
            Check.due(name + " weight", weight, trace.weight.toString());
        }
    }

    private static void dueOrNone(String name, int due, Check.Call call) {
        if (due < 0) {
            Check.thrown(name, java.util.NoSuchElementException.class, call);
        } else {
            Check.due(name, call.run(), due);
        }
    }

    private static void compareSets(String name, Chanceledger game, Oracle oracle) {
        int[] classes = oracle.classes();
        int number = 0;
        for (int s = 0; s < oracle.n; s++) {
            int state = s;
            dueOrNone(name + " endOf " + s, oracle.endOf(s), () -> game.endOf(state));
            Check.due(name + " classOf " + s, game.classOf(s), classes[s]);
            number += classes[s] == s ? 1 : 0;
        }
        Check.due(name + " classes", game.classes(), number);
        Check.due(name + " isConsistent", game.isConsistent(), true);
    }
}
