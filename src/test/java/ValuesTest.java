/** Promises 12 to 21: values, floats, bounds and what the graph tells. */
public final class ValuesTest {
    private static final Class<IllegalArgumentException> ARGUMENT = IllegalArgumentException.class;
    private static final Class<IllegalStateException> STATE = IllegalStateException.class;
    private static final Class<IndexOutOfBoundsException> INDEX = IndexOutOfBoundsException.class;

    public static void main(String[] args) {
        values();
        valuesChange();
        valuesBehindSeveral();
        valuesWithLoops();
        greatValues();
        floats();
        rounded();
        bound();
        graphAlone();
        Check.end("ValuesTest");
    }

    private static Chanceledger sample() {
        return Games.of("a0 1,0>13 2,0>002", "b1 3,1>0 0,5>233", "a2* 0,0>2", "a3 4,4>3");
    }

    /** By all strategies first: what the other way left solved would be the right values. */
    private static void dueBoth(String what, Chanceledger game, char aim, int state, String want) {
        Check.due("14, 15 " + what, Games.byAll(game, aim, state), want);
        Check.due("12, 13 " + what, Games.value(game, aim, state), want);
    }

    /** Promises 12 to 15. */
    private static void values() {
        Chanceledger game = sample();
        String[] reached = {"1/1", "1/3", "1/1", "0/1"};
        String[] first = {"11/3", "8/3", "0/1", "8/1"};
        String[] second = {"18/7", "16/7", "0/1", "8/1"};
        String[] both = {"48/7", "52/7", "0/1", "16/1"};
        for (int s = 0; s < 4; s++) {
            dueBoth("r" + s, game, 'r', s, reached[s]);
            dueBoth("f" + s, game, 'f', s, first[s]);
            dueBoth("s" + s, game, 's', s, second[s]);
            dueBoth("w" + s, game, 'w', s, both[s]);
        }
        for (char aim : "rfsw".toCharArray()) {
            Chanceledger other = sample();
            String[] due = aim == 'r' ? reached : aim == 'f' ? first : aim == 's' ? second : both;
            Check.due("15 alone", other.belowByAll(aim, 1), Long.parseLong(due[1].split("/")[1]));
            Check.due("14 alone", sample().aboveByAll(aim, 0), Long.parseLong(due[0].split("/")[0]));
        }
        dueBoth("a target alone", Games.of("b0* 0,0>1", "b0 0,0>1"), 'r', 0, "1/1");
    }

    /** What was found once must not be told after a change. */
    private static void valuesChange() {
        Chanceledger game = Games.of("a0 1,0>0", "b0* 2,0>0");
        dueBoth("before a choice", game, 'f', 0, "2/1");
        game.addChoice(0, 5, 0);
        Check.thrown("12 not whole", STATE, () -> game.above('f', 0));
        Check.thrown("14 not whole", STATE, () -> game.aboveByAll('f', 0));
        game.addWeight(0, 1, 0, 1);
        dueBoth("behind a choice", game, 'f', 0, "10/1");
        dueBoth("before a weight", game, 'r', 0, "0/1");
        game.addWeight(0, 0, 1, 1);
        dueBoth("behind a weight", game, 'r', 0, "1/1");
        dueBoth("behind a weight", game, 'f', 1, "7/1");
        game.addState('a', 0);
        Check.thrown("14 not whole", STATE, () -> game.aboveByAll('f', 0));
        game.addChoice(2, 9, 0);
        game.addWeight(2, 0, 2, 1);
        dueBoth("a new state", game, 'f', 2, "18/1");
    }

    /** However many changes stand between two answers, what was found before them is not told again. */
    private static void valuesBehindSeveral() {
        Chanceledger game = Games.of("a0 3,0>0");
        dueBoth("before", game, 'w', 0, "6/1");
        game.setDiscount(2, 3);
        game.setTarget(0, true);
        dueBoth("a discount and a target", game, 'w', 0, "9/1");
        game.setWeights(2, 0);
        game.setTarget(0, false);
        dueBoth("weights and a target", game, 'w', 0, "18/1");
        game.setWeights(1, 0);
        game.setDiscount(1, 3);
        game.setTarget(0, true);
        dueBoth("all three", game, 'r', 0, "1/1");
        dueBoth("all three", game, 'w', 0, "9/2");
        game.setDiscount(1, 2);
        game.setDiscount(1, 3);
        game.setDiscount(2, 3);
        dueBoth("there and on", game, 'w', 0, "9/1");
    }

    /** 'b' can stay out for good, and 'a' must go on where to wait looks as good. */
    private static void valuesWithLoops() {
        Chanceledger stays = Games.of("b0 0,0>1 0,0>0", "a0* 0,0>1");
        dueBoth("b stays", stays, 'r', 0, "0/1");
        Chanceledger waits = Games.of("a0 0,0>0 0,0>1", "a0* 0,0>1");
        dueBoth("a goes on", waits, 'r', 0, "1/1");
        Chanceledger ring = Games.of("a0 0,0>1 0,0>23", "b0 0,0>0 0,0>3", "a0* 0,0>2", "b0 0,0>3");
        dueBoth("b turns back", ring, 'r', 1, "0/1");
        dueBoth("a throws the coin", ring, 'r', 0, "1/2");
        Chanceledger circle = Games.of("a0 0,0>1 0,0>3", "b0 0,0>0 0,0>234", "a0* 0,0>2",
                "a0 0,0>2444", "a0 0,0>4");
        dueBoth("b is content with a quarter", circle, 'r', 1, "1/4");
        dueBoth("and so is a", circle, 'r', 0, "1/4");
    }

    /** The greatest costs, discount and weights, with the greatest numbers below. */
    private static void greatValues() {
        String[] states = {"a0 9,9>112345", "a0 9,8>233456", "a0 9,9>344560", "b0 9,9>455601", "b0 9,9>566012",
            "b0 9,9>600123", "b0 9,9>011234"};
        Chanceledger game = Games.of(states);
        game.setDiscount(2, 3);
        game.setWeights(3, 3);
        Oracle oracle = Games.oracle(states);
        oracle.discountAbove = 2;
        oracle.discountBelow = 3;
        oracle.firstWeight = 3;
        oracle.secondWeight = 3;
        Fraction[] due = oracle.chain('w', new int[7]);
        for (int s = 0; s < 7; s++) {
            dueBoth("great w" + s, game, 'w', s, due[s].toString());
            Check.due("18 great", game.rounded('w', s),
                    (long) Math.rint(due[s].up.doubleValue() / due[s].down.doubleValue()));
        }
        dueBoth("all that can be had", Games.of("a0 9,9>0"), 'w', 0, "36/1");
    }

    /** Promises 16 and 17. */
    private static void floats() {
        Chanceledger game = sample();
        Check.due("16 f0", game.valueFloat('f', 0), 11f / 3f);
        Check.due("16 r1", game.valueFloat('r', 1), 1f / 3f);
        Check.due("16 s0", game.valueFloat('s', 0), 18f / 7f);
        Check.due("16 nothing", game.valueFloat('w', 2), 0f);
        Check.due("17 f0", game.restFloat('f', 0), (11f / 3f) % 0.75f);
        Check.due("17 r1", game.restFloat('r', 1), 1f / 3f);
        Check.due("17 r0", game.restFloat('r', 0), 0.25f);
        Check.due("17 w1", game.restFloat('w', 1), (52f / 7f) % 0.75f);
        Check.due("17 nothing", game.restFloat('w', 2), 0f);
        for (int cost = 0; cost <= 9; cost++) {
            Chanceledger third = Games.of("a0 " + cost + ",0>0");
            third.setDiscount(1, 3);
            Check.due("16 by halves " + cost, third.valueFloat('f', 0), cost * 1.5f);
            Check.due("17 no rest " + cost, third.restFloat('f', 0), 0f);
            Chanceledger half = Games.of("a0 " + cost + ",0>1", "a0 0,0>011");
            float value = half.above('f', 0) / (float) half.below('f', 0);
            Check.due("17 rest " + cost, half.restFloat('f', 0), value % 0.75f);
        }
    }

    /** Promise 18. */
    private static void rounded() {
        Chanceledger game = sample();
        Check.due("18 down", game.rounded('r', 1), 0L);
        Check.due("18 up", game.rounded('f', 0), 4L);
        Check.due("18 whole", game.rounded('f', 3), 8L);
        Check.due("18 nothing", game.rounded('f', 2), 0L);
        long[] due = {0, 2, 3, 4, 6, 8, 9, 10, 12, 14};
        for (int cost = 0; cost <= 9; cost++) {
            Chanceledger third = Games.of("a0 " + cost + ",0>0");
            third.setDiscount(1, 3);
            Check.due("18 halves to even " + cost, third.rounded('f', 0), due[cost]);
        }
    }

    /** Promise 19. */
    private static void bound() {
        Chanceledger game = Games.of("a0 0,0>001 0,0>0", "a0* 0,0>1", "b0 0,0>001 0,0>2221", "b0* 0,0>0");
        Check.due("19 before", game.bound(0, 0), 0.0);
        Check.due("19 target before", game.bound(1, 0), 1.0);
        Check.due("19 target stays", game.bound(3, 60), 1.0);
        Check.due("19 one round", game.bound(0, 1), 1.0 / 3.0);
        Check.due("19 two rounds", game.bound(0, 2), (2.0 * (1.0 / 3.0) + 1.0) / 3.0);
        Check.due("19 least", game.bound(2, 1), 0.25);
        Check.due("19 least again", game.bound(2, 2), (1.0 + 3.0 * 0.25) / 4.0);
        double last = 0;
        for (int round = 0; round < 60; round++) {
            last = (2.0 * last + 1.0) / 3.0;
        }
        Check.due("19 sixty rounds", game.bound(0, 60), last);
        Check.due("19 once divided", Games.of("a0 0,0>00012", "a0* 0,0>1", "b0* 0,0>2").bound(0, 2),
                (3.0 * 0.4 + 1.0 + 1.0) / 5.0);
        Check.due("19 all at once", Games.of("a0* 0,0>0", "a0 0,0>0", "a0 0,0>1").bound(2, 1), 0.0);
        for (int wrong : new int[] {-1, 61, Integer.MAX_VALUE, Integer.MIN_VALUE}) {
            Check.thrown("19 rounds " + wrong, ARGUMENT, () -> game.bound(0, wrong));
            Check.thrown("19 rounds and state " + wrong, INDEX, () -> game.bound(wrong, wrong));
        }
        game.addChoice(0, 0, 0);
        Check.thrown("19 not whole", STATE, () -> game.bound(0, 1));
        Check.thrown("19 not whole, and rounds", ARGUMENT, () -> game.bound(0, 61));
    }

    /** Promises 20 and 21. */
    private static void graphAlone() {
        Chanceledger game = sample();
        Check.due("20 isZero", game.isZero(0) + " " + game.isZero(1) + " " + game.isZero(2) + " " + game.isZero(3),
                "false false false true");
        Check.due("21 isOne", game.isOne(0) + " " + game.isOne(1) + " " + game.isOne(2) + " " + game.isOne(3),
                "true false true false");
        Chanceledger stays = Games.of("b0 0,0>1 0,0>0", "a0* 0,0>1");
        Check.due("20 b stays", stays.isZero(0), true);
        Check.due("21 b stays", stays.isOne(0), false);
        Chanceledger sure = Games.of("b0 0,0>0001", "a0* 0,0>2", "b0 0,0>2");
        Check.due("21 sooner or later", sure.isOne(0), true);
        Check.due("21 target that is left", sure.isOne(1), true);
        Check.due("20 target that is left", sure.isZero(1), false);
        Check.due("20 lost", sure.isZero(2), true);
        Chanceledger risk = Games.of("a0 0,0>12 0,0>0", "a0* 0,0>1", "b0 0,0>2", "b0 0,0>0 0,0>1");
        Check.due("21 a coin is not sure", risk.isOne(0), false);
        Check.due("21 b chooses the coin", risk.isOne(3), false);
        Check.due("20 b can't avoid", risk.isZero(3), false);
    }
}
