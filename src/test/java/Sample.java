/**
 * Games at which edges are tried, from the empty one to the full one. But for the empty one, each
 * holds other values than the first ones wherever it can, so that a call which sets them back is seen.
 */
enum Sample {
    /** No states. */
    EMPTY,
    /** Not whole: a state without choices. */
    BARE("b3* 9,0>1 0,9>0", "a2"),
    /** Not whole: a choice without weights, the last one of the last state. */
    PART("a0 1,0>13 2,0>002", "b1 3,1>0 0,5>233", "a2* 0,0>2", "a3 4,4>3 7,1>"),
    /** The least whole game. */
    ONE("b1 5,3>0"),
    FOUR("a0 1,0>13 2,0>002", "b1 3,1>0 0,5>233", "a2* 0,0>2", "a3 4,4>3"),
    /** As many states, choices and weights as there can be. */
    FULL("a0 9,0>111122 0,9>033333 5,5>245556", "b1 1,8>000022 8,1>444456 4,4>022345",
            "a2 2,7>111133 7,2>555556 3,3>012346", "b3 0,9>444444 9,0>222266 6,6>345555",
            "a0 3,6>555555 6,3>000001 1,1>333366", "b1 4,5>555555 5,4>111222 2,2>555556",
            "a2* 9,9>666666 0,0>012345 7,7>000000");

    final String[] states;

    Sample(String... states) {
        this.states = states;
    }

    Chanceledger game() {
        Chanceledger game = Games.of(states);
        if (states.length > 0) {
            game.setDiscount(2, 3);
            game.setWeights(2, 3);
        }
        for (int s = 0; s < states.length; s++) {
            if (choicesOf(s) > 0) {
                game.tell(s, toldOf(s));
            }
        }
        return game;
    }

    /** The calls of the object that game() makes. */
    int calls() {
        return Games.calls(states) + 2 + states.length;
    }

    /** The oracle of a whole one. */
    Oracle oracle() {
        Oracle oracle = Games.oracle(states);
        oracle.discountAbove = 2;
        oracle.discountBelow = 3;
        oracle.firstWeight = 2;
        oracle.secondWeight = 3;
        for (int s = 0; s < states.length; s++) {
            oracle.told[s] = toldOf(s);
        }
        return oracle;
    }

    boolean isWhole() {
        return this == ONE || this == FOUR || this == FULL;
    }

    private int choicesOf(int state) {
        return states[state].split(" ").length - 1;
    }

    private int toldOf(int state) {
        return (state + 1) % choicesOf(state);
    }
}
