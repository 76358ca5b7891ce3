/** Promises 1 to 11: the game and how it is made. */
public final class GameTest {
    private static final Class<IllegalArgumentException> ARGUMENT = IllegalArgumentException.class;
    private static final Class<IllegalStateException> STATE = IllegalStateException.class;
    private static final Class<IndexOutOfBoundsException> INDEX = IndexOutOfBoundsException.class;

    public static void main(String[] args) {
        newObject();
        addState();
        addChoice();
        addWeight();
        setTarget();
        setDiscount();
        setWeights();
        choices();
        chance();
        isWhole();
        Check.end("GameTest");
    }

    /** Promise 1. */
    private static void newObject() {
        Chanceledger game = new Chanceledger();
        Check.due("1 states", game.states(), 0);
        Check.due("1 isWhole", game.isWhole(), false);
        Check.due("1 isConsistent", game.isConsistent(), true);
        Check.thrown("1 choices", INDEX, () -> game.choices(0));
        Check.due("1 discount at first", game.setDiscount(1, 3), 12);
        Check.due("1 weights at first", game.setWeights(0, 0), 11);
        Chanceledger other = Games.of("a0 1,0>0");
        Check.due("1 of its own", game.states() + 10 * other.states(), 10);
    }

    /** Promises 2 and 8. */
    private static void addState() {
        Chanceledger game = new Chanceledger();
        for (char wrong : new char[] {'c', 'A', 'B', '`', 0, 'r', (char) ('a' + 256), 65535}) {
            Check.thrown("2 player " + (int) wrong, ARGUMENT, () -> game.addState(wrong, 0));
        }
        for (int wrong : new int[] {-1, 4, Integer.MIN_VALUE, Integer.MAX_VALUE}) {
            Check.thrown("2 colour " + wrong, ARGUMENT, () -> game.addState('a', wrong));
        }
        Check.due("8 states", game.states(), 0);
        for (int s = 0; s < 7; s++) {
            Check.due("2 addState", game.addState(s % 2 == 0 ? 'a' : 'b', s % 4), s);
            Check.due("8 states", game.states(), s + 1);
        }
        Check.thrown("2 eighth state", STATE, () -> game.addState('b', 3));
        Check.thrown("2 eighth state of no player", ARGUMENT, () -> game.addState('c', 3));
        Check.thrown("2 eighth state of no colour", ARGUMENT, () -> game.addState('a', 4));
        Check.due("8 states", game.states(), 7);
        Check.due("2 no choices", game.choices(6), 0);
        Check.due("2 told at first", game.told(6), 0);
        Check.due("2 no target", game.setTarget(6, false), false);
        Chanceledger players = Games.of("a0 0,0>0 9,0>0", "b0 0,0>1 9,0>1");
        Check.due("2 'a' takes more", Games.value(players, 'f', 0), "18/1");
        Check.due("2 'b' takes less", Games.value(players, 'f', 1), "0/1");
        Chanceledger colours = Games.of("a0 0,0>0", "a1 0,0>1", "a2 0,0>2", "a3 0,0>3");
        Check.due("2 colours", "" + colours.chainAbove('p', 0) + colours.chainAbove('p', 1)
                + colours.chainAbove('p', 2) + colours.chainAbove('p', 3), "1010");
    }

    /** Promise 3. */
    private static void addChoice() {
        Chanceledger game = new Chanceledger();
        Check.thrown("3 no state yet", INDEX, () -> game.addChoice(0, 0, 0));
        game.addState('a', 0);
        game.addState('a', 0);
        for (int wrong : new int[] {-1, 2, 7, Integer.MAX_VALUE, Integer.MIN_VALUE}) {
            Check.thrown("3 state " + wrong, INDEX, () -> game.addChoice(wrong, 0, 0));
            Check.thrown("3 state and cost " + wrong, INDEX, () -> game.addChoice(wrong, -1, 10));
        }
        for (int wrong : new int[] {-1, 10, Integer.MAX_VALUE, Integer.MIN_VALUE}) {
            Check.thrown("3 first cost " + wrong, ARGUMENT, () -> game.addChoice(1, wrong, 0));
            Check.thrown("3 second cost " + wrong, ARGUMENT, () -> game.addChoice(1, 0, wrong));
        }
        Check.due("3 first", game.addChoice(1, 0, 9), 0);
        Check.due("3 second", game.addChoice(1, 9, 0), 1);
        Check.due("3 third", game.addChoice(1, 5, 5), 2);
        Check.thrown("3 fourth", STATE, () -> game.addChoice(1, 0, 0));
        Check.thrown("3 fourth, and a cost", ARGUMENT, () -> game.addChoice(1, 0, 10));
        Check.due("3 other state", game.addChoice(0, 0, 0), 0);
        Check.due("3 counted", game.choices(1) * 10 + game.choices(0), 31);
        Check.thrown("3 no weights", ArithmeticException.class, () -> game.chance(1, 2, 0));
        Chanceledger costs = Games.of("a0 7,2>0");
        Check.due("3 costs", Games.value(costs, 'f', 0) + " " + Games.value(costs, 's', 0), "14/1 4/1");
    }

    /** Promise 4. */
    private static void addWeight() {
        Chanceledger game = new Chanceledger();
        game.addState('a', 0);
        game.addState('b', 0);
        game.addChoice(0, 0, 0);
        for (int wrong : new int[] {-1, 2, Integer.MAX_VALUE, Integer.MIN_VALUE}) {
            Check.thrown("4 state " + wrong, INDEX, () -> game.addWeight(wrong, 0, 0, 1));
            Check.thrown("4 to " + wrong, INDEX, () -> game.addWeight(0, 0, wrong, 1));
            Check.thrown("4 choice " + wrong, INDEX, () -> game.addWeight(0, wrong, 0, 1));
            Check.thrown("4 to and weight " + wrong, INDEX, () -> game.addWeight(0, 0, wrong, 0));
        }
        Check.thrown("4 no choice yet", INDEX, () -> game.addWeight(1, 0, 0, 1));
        Check.thrown("4 no such choice", INDEX, () -> game.addWeight(0, 1, 0, 1));
        for (int wrong : new int[] {0, 7, -1, Integer.MAX_VALUE, Integer.MIN_VALUE}) {
            Check.thrown("4 weight " + wrong, ARGUMENT, () -> game.addWeight(0, 0, 0, wrong));
        }
        Check.due("4 first", game.addWeight(0, 0, 1, 2), 2);
        Check.due("4 more", game.addWeight(0, 0, 0, 1), 3);
        Check.thrown("4 sum of 7", STATE, () -> game.addWeight(0, 0, 0, 4));
        Check.thrown("4 sum of 9", STATE, () -> game.addWeight(0, 0, 1, 6));
        Check.thrown("4 weight of 7", ARGUMENT, () -> game.addWeight(0, 0, 1, 7));
        Check.due("4 nothing changed", game.chance(0, 0, 1), 23);
        Check.due("4 same again", game.addWeight(0, 0, 1, 3), 6);
        Check.due("4 added up", game.chance(0, 0, 1), 56);
        Check.thrown("4 full", STATE, () -> game.addWeight(0, 0, 1, 1));
        game.addChoice(0, 0, 0);
        Check.due("4 six at once", game.addWeight(0, 1, 1, 6), 6);
        Check.due("4 a choice of its own", game.chance(0, 0, 0), 16);
    }

    /** Promise 5. */
    private static void setTarget() {
        Chanceledger game = Games.of("a0 0,0>1", "a0 0,0>1");
        for (int wrong : new int[] {-1, 2, 32, Integer.MAX_VALUE, Integer.MIN_VALUE}) {
            Check.thrown("5 state " + wrong, INDEX, () -> game.setTarget(wrong, true));
        }
        Check.due("5 value before", Games.value(game, 'r', 0), "0/1");
        Check.due("5 by all before", Games.byAll(game, 'r', 0), "0/1");
        Check.due("5 none before", game.setTarget(1, true), false);
        Check.due("5 one before", game.setTarget(1, true), true);
        Check.due("5 not the other", game.setTarget(0, false), false);
        Check.due("5 value", Games.value(game, 'r', 0), "1/1");
        Check.due("5 by all", Games.byAll(game, 'r', 0), "1/1");
        Check.due("5 not any more", game.setTarget(1, false), true);
        Check.due("5 none again", game.setTarget(1, false), false);
        Check.due("5 value again", Games.value(game, 'r', 0), "0/1");
        Check.due("5 by all again", Games.byAll(game, 'r', 0), "0/1");
    }

    /** Promise 6. */
    private static void setDiscount() {
        Chanceledger game = Games.of("a0 1,0>0");
        int[][] wrong = {{1, 1}, {2, 2}, {0, 2}, {3, 2}, {1, 4}, {2, 4}, {3, 3}, {0, 3}, {-1, 2}, {1, 0}, {1, -3},
            {Integer.MIN_VALUE, Integer.MAX_VALUE}, {1, Integer.MAX_VALUE}};
        for (int[] pair : wrong) {
            Check.thrown("6 discount " + pair[0] + "/" + pair[1], ARGUMENT, () -> game.setDiscount(pair[0], pair[1]));
        }
        Check.due("6 value of 1/2", Games.value(game, 'f', 0) + " " + Games.byAll(game, 'f', 0), "2/1 2/1");
        Check.due("6 to 2/3", game.setDiscount(2, 3), 12);
        Check.due("6 value of 2/3", Games.value(game, 'f', 0) + " " + Games.byAll(game, 'f', 0), "3/1 3/1");
        Check.due("6 to 1/3", game.setDiscount(1, 3), 23);
        Check.due("6 value of 1/3", Games.value(game, 'f', 0) + " " + Games.byAll(game, 'f', 0), "3/2 3/2");
        Check.due("6 to 1/2", game.setDiscount(1, 2), 13);
        Check.due("6 chain of 1/2", Games.chain(game, 'f', 0), "2/1");
    }

    /** Promise 7. */
    private static void setWeights() {
        Chanceledger game = Games.of("a0 1,4>0");
        int[][] wrong = {{-1, 0}, {0, -1}, {4, 0}, {0, 4}, {Integer.MAX_VALUE, 1}, {1, Integer.MIN_VALUE}};
        for (int[] pair : wrong) {
            Check.thrown("7 weights " + pair[0] + " " + pair[1], ARGUMENT, () -> game.setWeights(pair[0], pair[1]));
        }
        Check.due("7 value of 1, 1", Games.value(game, 'w', 0) + " " + Games.byAll(game, 'w', 0), "10/1 10/1");
        Check.due("7 to 3, 0", game.setWeights(3, 0), 11);
        Check.due("7 value of 3, 0", Games.value(game, 'w', 0) + " " + Games.byAll(game, 'w', 0), "6/1 6/1");
        Check.due("7 to 0, 3", game.setWeights(0, 3), 30);
        Check.due("7 value of 0, 3", Games.value(game, 'w', 0) + " " + Games.byAll(game, 'w', 0), "24/1 24/1");
        Check.due("7 to 0, 0", game.setWeights(0, 0), 3);
        Check.due("7 value of 0, 0", Games.value(game, 'w', 0) + " " + Games.byAll(game, 'w', 0), "0/1 0/1");
        Check.due("7 not for 'f'", Games.value(game, 'f', 0), "2/1");
    }

    /** Promise 9. */
    private static void choices() {
        Chanceledger game = Games.of("a0 1,0>0 1,0>0 1,0>0", "b0", "b0 1,0>0");
        Check.due("9 choices", game.choices(0) * 100 + game.choices(1) * 10 + game.choices(2), 301);
        for (int wrong : new int[] {-1, 3, 7, Integer.MAX_VALUE, Integer.MIN_VALUE}) {
            Check.thrown("9 state " + wrong, INDEX, () -> game.choices(wrong));
        }
    }

    /** Promise 10. */
    private static void chance() {
        Chanceledger game = Games.of("a0 1,0>001112 1,0>0 1,0>1122", "b0 1,0>", "b0");
        Check.due("10 of 6", game.chance(0, 0, 0) + " " + game.chance(0, 0, 1), "13 12");
        Check.due("10 of 6, the last one", game.chance(0, 0, 2), 16);
        Check.due("10 sure, and never", game.chance(0, 1, 0) + " " + game.chance(0, 1, 1), "11 1");
        Check.due("10 of 4", game.chance(0, 2, 0) + " " + game.chance(0, 2, 2), "1 12");
        Check.thrown("10 no weights", ArithmeticException.class, () -> game.chance(1, 0, 0));
        Check.thrown("10 no weights, no state", INDEX, () -> game.chance(1, 0, 3));
        for (int wrong : new int[] {-1, 3, Integer.MAX_VALUE, Integer.MIN_VALUE}) {
            Check.thrown("10 state " + wrong, INDEX, () -> game.chance(wrong, 0, 0));
            Check.thrown("10 choice " + wrong, INDEX, () -> game.chance(0, wrong, 0));
            Check.thrown("10 to " + wrong, INDEX, () -> game.chance(0, 0, wrong));
        }
        Check.thrown("10 no choice", INDEX, () -> game.chance(2, 0, 0));
    }

    /** Promise 11. */
    private static void isWhole() {
        Chanceledger game = new Chanceledger();
        Check.due("11 no states", game.isWhole(), false);
        game.addState('a', 0);
        Check.due("11 no choice", game.isWhole(), false);
        game.addChoice(0, 0, 0);
        Check.due("11 no weights", game.isWhole(), false);
        game.addWeight(0, 0, 0, 1);
        Check.due("11 whole", game.isWhole(), true);
        game.addChoice(0, 0, 0);
        Check.due("11 second choice without weights", game.isWhole(), false);
        game.addWeight(0, 1, 0, 6);
        Check.due("11 whole again", game.isWhole(), true);
        game.addState('b', 0);
        Check.due("11 second state without choice", game.isWhole(), false);
        game.addChoice(1, 0, 0);
        game.addWeight(1, 0, 0, 1);
        Check.due("11 whole at last", game.isWhole(), true);
    }
}
