import java.util.NoSuchElementException;

/** Promises 29 to 38: components, classes, traces, means and the invariants. */
public final class ComponentsTest {
    private static final Class<NoSuchElementException> NONE = NoSuchElementException.class;

    public static void main(String[] args) {
        closedOf();
        endOf();
        classes();
        traces();
        tracesOfSeveral();
        meanChoices();
        isConsistent();
        Check.end("ComponentsTest");
    }

    private static Chanceledger sample() {
        return Games.of("a0 1,0>13 2,0>002", "b1 3,1>0 0,5>233", "a2* 0,0>2", "a3 4,4>3");
    }

    /** Promise 29. */
    private static void closedOf() {
        Chanceledger game = Games.of("a0 0,0>01 0,0>0", "a0 0,0>2", "b0 0,0>31", "b0* 0,0>2 0,0>3", "a0 0,0>4");
        Check.thrown("29 passed by", NONE, () -> game.closedOf(0));
        Check.due("29 of three", game.closedOf(1) + " " + game.closedOf(2) + " " + game.closedOf(3), "1 1 1");
        Check.due("29 alone", game.closedOf(4), 4);
        game.tell(0, 1);
        Check.due("29 told", game.closedOf(0), 0);
        game.tell(3, 1);
        Check.thrown("29 left", NONE, () -> game.closedOf(2));
        Check.due("29 target", game.closedOf(3), 3);
        Chanceledger back = Games.of("a0 0,0>2", "a0 0,0>1", "a0 0,0>01");
        Check.thrown("29 there and back, but out", NONE, () -> back.closedOf(0));
    }

    /** Promise 30. */
    private static void endOf() {
        Chanceledger game = Games.of("a0 0,0>12", "b0 0,0>2 0,0>3", "a0* 0,0>1 0,0>4", "b0 0,0>3 0,0>5",
                "a0 0,0>45", "a0 0,0>4 0,0>6", "b0 0,0>4455");
        Check.thrown("30 passed by", NONE, () -> game.endOf(0));
        Check.due("30 of two", game.endOf(1) + " " + game.endOf(2), "1 1");
        Check.due("30 alone with itself", game.endOf(3), 3);
        Check.due("30 of three", game.endOf(4) + " " + game.endOf(5) + " " + game.endOf(6), "4 4 4");
        Chanceledger whole = Games.of("a0 0,0>2", "a0 0,0>1 0,0>0", "a0 0,0>01");
        Check.due("30 not by the told ones", whole.endOf(0) + " " + whole.endOf(1) + " " + whole.endOf(2), "0 0 0");
        Chanceledger coin = Games.of("a0 0,0>1", "b0 0,0>02", "a0 0,0>2");
        Check.thrown("30 chance leads out", NONE, () -> coin.endOf(0));
        Check.thrown("30 no way back to itself", NONE, () -> coin.endOf(1));
        Chanceledger peeled = Games.of("a0 0,0>1", "a0 0,0>0 0,0>23", "a0 0,0>1", "a0 0,0>4", "a0 0,0>4");
        Check.due("30 what is left of a greater one", peeled.endOf(0) + " " + peeled.endOf(1), "0 0");
        Check.thrown("30 peeled off", NONE, () -> peeled.endOf(2));
    }

    /** Promises 31 and 32. */
    private static void classes() {
        Chanceledger game = Games.of("a0 1,2>1", "a0 1,2>00", "b0 1,2>1", "a1 1,2>1", "a0* 1,2>1", "a0 1,2>2");
        Check.due("31 player, colour, target", classesOf(game), "002345");
        Check.due("32 of six", game.classes(), 5);
        Chanceledger costs = Games.of("a0 1,2>0", "a0 2,2>0", "a0 1,1>0", "a0 1,2>0123 1,2>0", "a0 1,2>3 2,2>3",
                "a0 1,2>0 1,2>1");
        Check.due("31 costs and choices", classesOf(costs), "012345");
        Check.due("31 one for each", classesOf(Games.of("a0 1,2>0", "a0 1,2>1 1,2>0", "a0 1,2>2 1,3>2")), "002");
        Chanceledger chances = Games.of("b0 0,0>45", "b0 0,0>554", "b0 0,0>5445", "b0 0,0>654", "a1 0,0>4",
                "a2 0,0>5", "a1 0,0>4");
        Check.due("31 chances", classesOf(chances), "0103454");
        Chanceledger far = Games.of("a0 0,0>1", "a0 0,0>2", "a0 0,0>3", "a0 0,0>4", "a0* 0,0>4");
        Check.due("31 split round by round", classesOf(far), "01234");
        Check.due("32 split round by round", far.classes(), 5);
        Chanceledger same = Games.of("a0 0,0>1", "a0 0,0>2", "a0 0,0>3", "a0 0,0>4", "a0 0,0>4");
        Check.due("31 all alike", classesOf(same), "00000");
        Check.due("32 all alike", same.classes(), 1);
        same.tell(0, 0);
        same.setTarget(2, true);
        Check.due("31 behind a change", classesOf(same), "01233");
        Check.due("32 behind a change", same.classes(), 4);
    }

    private static String classesOf(Chanceledger game) {
        StringBuilder text = new StringBuilder();
        for (int s = 0; s < game.states(); s++) {
            text.append(game.classOf(s));
        }
        return text.toString();
    }

    /** Promises 33 to 36. */
    private static void traces() {
        Chanceledger game = sample();
        Check.thrown("33 none", NONE, () -> game.traceLength(0));
        Check.due("33 to 36 target", Games.trace(game, 2), "2 1/1");
        game.tell(0, 1);
        Check.due("33 to 36 two", Games.trace(game, 0), "02 1/3");
        Check.due("33 to 36 three", Games.trace(game, 1), "102 1/3");
        game.tell(1, 1);
        Check.due("33 to 36 straight", Games.trace(game, 1), "12 1/3");
        for (int wrong : new int[] {-1, 2, 3, 7, Integer.MAX_VALUE, Integer.MIN_VALUE}) {
            Check.thrown("34 index " + wrong, NONE, () -> game.traceAt(1, wrong));
        }
        Check.thrown("34 none", NONE, () -> game.traceAt(3, 0));
        Check.thrown("35 none", NONE, () -> game.traceAbove(3));
        Check.thrown("36 none", NONE, () -> game.traceBelow(3));
        Chanceledger line = Games.of("a0 0,0>11", "b0 0,0>2", "a0 0,0>3", "b0 0,0>4", "a0 0,0>5", "b0 0,0>664",
                "a0* 0,0>0");
        Check.due("33 to 36 seven", Games.trace(line, 0), "0123456 2/3");
    }

    /** The weight goes first, then the number of states, then their numbers. */
    private static void tracesOfSeveral() {
        Chanceledger weight = Games.of("a0 0,0>11113", "a0 0,0>22223", "a0 0,0>3", "a0* 0,0>3");
        Check.due("33 to 36 weight first", Games.trace(weight, 0), "0123 16/25");
        Chanceledger few = Games.of("a0 0,0>12", "a0 0,0>3", "a0 0,0>4", "a0 0,0>4", "b0* 0,0>4");
        Check.due("33 to 36 then few states", Games.trace(few, 0), "024 1/2");
        Chanceledger low = Games.of("a0 0,0>3", "a0 0,0>5", "a0 0,0>6", "b0 0,0>4121", "b0 0,0>6", "a0* 0,0>1",
                "a0* 0,0>2");
        Check.due("33 to 36 then a greater chance", Games.trace(low, 0), "0315 1/2");
        Chanceledger tie = Games.of("a0 0,0>3", "a0 0,0>5", "a0 0,0>6", "b0 0,0>214", "b0 0,0>6", "a0* 0,0>1",
                "a0* 0,0>2");
        Check.due("33 to 36 then low numbers", Games.trace(tie, 0), "0315 1/3");
        Chanceledger last = Games.of("a0 0,0>1", "a0 0,0>32", "a0* 0,0>1", "a0* 0,0>2");
        Check.due("33 to 36 to the lower target", Games.trace(last, 0), "012 1/2");
        Chanceledger detour = Games.of("a0 0,0>121", "a0 0,0>34", "a0 0,0>3", "a0* 0,0>1", "a0 0,0>4");
        Check.due("33 to 36 as heavy, so the lower", Games.trace(detour, 0), "013 1/3");
        Chanceledger again = Games.of("a0 0,0>001", "a0 0,0>0002", "a0* 0,0>1");
        Check.due("33 to 36 not through a state again", Games.trace(again, 0), "012 1/12");
    }

    /** Promise 37. */
    private static void meanChoices() {
        Check.thrown("37 no states", ArithmeticException.class, () -> new Chanceledger().meanChoices());
        Check.due("37 none", Games.of("a0").meanChoices(), 0.0);
        Check.due("37 of three", Games.of("a0 0,0> 0,0>0", "b0", "a1 0,0> 0,0>1 1,1>2").meanChoices(), 5.0 / 3.0);
        Check.due("37 of four", sample().meanChoices(), 1.5);
        Check.due("37 of seven", Games.of("a0 0,0>", "b0", "a0", "b0 0,0> 0,0> 0,0>", "a0", "a0", "b0 0,0>6").meanChoices(),
                5.0 / 7.0);
    }

    /** Promise 38. */
    private static void isConsistent() {
        Check.due("38 no states", new Chanceledger().isConsistent(), true);
        Check.due("38 not whole", Games.of("a0").isConsistent(), true);
        Check.due("38 not whole either", Games.of("a0 0,0>0 1,1>").isConsistent(), true);
        Chanceledger game = sample();
        Check.due("38 whole", game.isConsistent(), true);
        Check.due("38 value behind it", Games.value(game, 'f', 0) + " " + Games.byAll(game, 'f', 0), "11/3 11/3");
        game.tell(0, 1);
        Check.due("38 told", game.isConsistent(), true);
        Check.due("38 told stays", game.told(0), 1);
        game.setDiscount(2, 3);
        game.setWeights(0, 3);
        game.setTarget(2, false);
        Check.due("38 changed", game.isConsistent(), true);
        Chanceledger like = Games.of("b1 3,4>2345 1,1>6", "b1 1,1>6 3,4>2345", "a0 0,0>3", "a0 0,0>2 0,0>4", "a0 0,0>4",
                "a0* 1,1>5", "b0 0,9>055");
        Check.due("38 likeness", like.classes() + " " + like.isConsistent(), "4 true");
    }
}
