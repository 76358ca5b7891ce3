/** Promises 22 to 28: told strategies, their chains and the answers to them. */
public final class StrategiesTest {
    private static final Class<IndexOutOfBoundsException> INDEX = IndexOutOfBoundsException.class;
    private static final int[] NO_STATES = {-1, 4, 7, Integer.MAX_VALUE, Integer.MIN_VALUE};

    public static void main(String[] args) {
        solve();
        solveByRank();
        tell();
        chainOfAims();
        chainInTheLongRun();
        responses();
        Check.end("StrategiesTest");
    }

    private static Chanceledger sample() {
        return Games.of("a0 1,0>13 2,0>002", "b1 3,1>0 0,5>233", "a2* 0,0>2", "a3 4,4>3");
    }

    /** Promise 22. */
    private static void solve() {
        Chanceledger game = sample();
        Check.due("22 r", game.solve('r') + " " + Games.told(game), "2 1100");
        Check.due("22 r again", game.solve('r') + " " + Games.told(game), "0 1100");
        Check.due("22 f", game.solve('f') + " " + Games.told(game), "1 0100");
        Check.due("22 s", game.solve('s') + " " + Games.told(game), "1 0000");
        Check.due("22 w", game.solve('w') + " " + Games.told(game), "0 0000");
        Chanceledger even = Games.of("a0 0,0>0 1,0>0 1,0>0", "b0 1,0>1 0,1>1 0,2>1");
        Check.due("22 lowest good ones", even.solve('f') + " " + Games.told(even), "2 11");
        Check.due("22 all are good", even.solve('r') + " " + Games.told(even), "2 00");
        Chanceledger target = Games.of("a0* 0,0>1 0,0>0", "a0 0,0>1");
        target.tell(0, 1);
        Check.due("22 a target's choices are all good", target.solve('r') + " " + Games.told(target), "1 00");
    }

    /** Of choices that look as good the one is told that comes nearer to a target. */
    private static void solveByRank() {
        Chanceledger waits = Games.of("a0 0,0>0 0,0>2 0,0>1", "a0 0,0>0 0,0>1 0,0>3", "b0 0,0>1", "a0* 0,0>3");
        Check.due("22 on, not round", waits.solve('r') + " " + Games.told(waits), "2 2200");
        Check.due("22 reaches", Games.chain(waits, 'r', 0), "1/1");
        Chanceledger both = Games.of("a0 0,0>1 0,0>0", "b0 0,0>2 0,0>0", "a0* 0,0>2", "b0 0,0>3");
        Check.due("22 b may turn back", both.solve('r') + " " + Games.told(both), "1 0100");
        Check.due("22 b turned back", Games.chain(both, 'r', 0), "0/1");
        Chanceledger ranks = Games.of("b0 0,0>1 0,0>2", "a0 0,0>0 0,0>3", "a0 0,0>1", "a0* 0,0>3");
        Check.due("22 ranks of b", ranks.solve('r') + " " + Games.told(ranks), "1 0100");
        Chanceledger coin = Games.of("a0 0,0>1 0,0>13 0,0>34", "a0 0,0>0 0,0>4", "a0 0,0>2 0,0>0", "a0* 0,0>3",
                "b0 0,0>4");
        Check.due("22 a coin", coin.solve('r') + " " + Games.told(coin), "2 10100");
        Check.due("22 a coin reaches", Games.value(coin, 'r', 2) + " " + Games.chain(coin, 'r', 2), "1/1 1/1");
    }

    /** Promises 23 and 24. */
    private static void tell() {
        Chanceledger game = sample();
        Check.due("24 at first", Games.told(game), "0000");
        Check.due("23 before", game.tell(0, 1), 0);
        Check.due("24 told", Games.told(game), "1000");
        Check.due("23 before, again", game.tell(0, 0) + 10 * game.tell(0, 1), 1);
        Check.due("23 the other one stays", game.told(1), 0);
        for (int state : NO_STATES) {
            Check.thrown("23 state " + state, INDEX, () -> game.tell(state, 0));
            Check.thrown("24 state " + state, INDEX, () -> game.told(state));
        }
        for (int wrong : new int[] {-1, 2, 3, Integer.MAX_VALUE, Integer.MIN_VALUE}) {
            Check.thrown("23 choice " + wrong, INDEX, () -> game.tell(0, wrong));
        }
        Check.thrown("23 choice of another", INDEX, () -> game.tell(2, 1));
        Check.due("24 nothing changed", Games.told(game), "1000");
        Chanceledger empty = Games.of("a0");
        Check.thrown("23 no choices", INDEX, () -> empty.tell(0, 0));
        Check.due("24 no choices", empty.told(0), 0);
        Chanceledger part = Games.of("a0 0,0> 0,0>");
        Check.due("23 not whole", part.tell(0, 1) * 10 + part.told(0), 1);
    }

    /** Promises 25 and 26. */
    private static void chainOfAims() {
        Chanceledger game = sample();
        Check.due("25, 26 r", row(game, 'r'), "0/1 0/1 1/1 0/1");
        game.setDiscount(1, 3);
        Check.due("25, 26 f", row(game, 'f'), "45/17 66/17 0/1 6/1");
        Check.due("25, 26 s", row(game, 's'), "21/17 24/17 0/1 6/1");
        Check.due("25, 26 w", row(game, 'w'), "66/17 90/17 0/1 12/1");
        game.tell(0, 1);
        Check.due("25, 26 r told", row(game, 'r'), "1/1 1/1 1/1 0/1");
        game.tell(1, 1);
        Check.due("25, 26 r told", row(game, 'r'), "1/1 1/3 1/1 0/1");
        Check.due("25, 26 f told", row(game, 'f'), "18/7 4/3 0/1 6/1");
        Check.due("25, 26 target left", row(Games.of("a0* 0,0>1", "a0 0,0>1"), 'r'), "1/1 0/1");
    }

    private static String row(Chanceledger game, char aim) {
        StringBuilder text = new StringBuilder();
        for (int s = 0; s < game.states(); s++) {
            text.append(s == 0 ? "" : " ").append(Games.chain(game, aim, s));
        }
        return text.toString();
    }

    /** Means and colours, of one closed set and of several. */
    private static void chainInTheLongRun() {
        Chanceledger game = sample();
        Check.due("25, 26 m", row(game, 'm'), "4/1 4/1 0/1 4/1");
        Check.due("25, 26 p", row(game, 'p'), "0/1 0/1 1/1 0/1");
        game.tell(1, 1);
        Check.due("25, 26 m told", row(game, 'm'), "10/3 8/3 0/1 4/1");
        Check.due("25, 26 p told", row(game, 'p'), "1/6 1/3 1/1 0/1");
        Chanceledger ring = Games.of("a1 1,9>1", "b2 2,9>20", "a2 7,9>0");
        Check.due("25, 26 m ring", row(ring, 'm'), "13/5 13/5 13/5");
        Check.due("25, 26 p ring", row(ring, 'p'), "0/1 0/1 0/1");
        Chanceledger sets = Games.of("a0 9,0>1356", "a1 1,0>2", "a2 2,0>1", "a3 5,0>444443",
                "b0 0,0>33334", "b3 3,0>5", "b2 8,0>0");
        Check.due("25, 26 m sets", row(sets, 'm'), "227/98 3/2 3/2 120/49 120/49 3/1 227/98");
        Check.due("25, 26 p sets", row(sets, 'p'), "1/3 0/1 0/1 1/1 1/1 0/1 1/3");
        Check.due("25 costs by the way are nothing", row(Games.of("a1 9,0>1", "a0 2,0>1"), 'm'), "2/1 2/1");
        Check.due("25 colours by the way are nothing", row(Games.of("a0 9,0>1", "a1 2,0>1"), 'p'), "0/1 0/1");
    }

    /** Promises 27 and 28. */
    private static void responses() {
        Chanceledger game = sample();
        Check.due("27, 28 b against a", Games.response(game, 'a', 'r', 0) + " " + Games.response(game, 'a', 'r', 1),
                "0/1 0/1");
        Check.due("27, 28 a against b", Games.response(game, 'b', 'r', 0) + " " + Games.response(game, 'b', 'r', 1),
                "1/1 1/1");
        game.tell(0, 1);
        Check.due("27, 28 b against a", Games.response(game, 'a', 'r', 0) + " " + Games.response(game, 'a', 'r', 1),
                "1/1 1/3");
        Check.due("27, 28 f against a", Games.response(game, 'a', 'f', 0) + " " + Games.response(game, 'a', 'f', 1),
                "3/1 8/3");
        Check.due("27, 28 f against b", Games.response(game, 'b', 'f', 0) + " " + Games.response(game, 'b', 'f', 1),
                "30/7 36/7");
        Check.due("27, 28 s against b", Games.response(game, 'b', 's', 0), "18/7");
        Check.due("27, 28 w against a", Games.response(game, 'a', 'w', 1), "11/2");
        Check.due("24 told stays", Games.told(game), "1000");
        Chanceledger stays = Games.of("b0 0,0>1 0,0>0", "a0 0,0>2 0,0>0", "a0* 0,0>2");
        Check.due("27 b stays", Games.response(stays, 'a', 'r', 0), "0/1");
        Check.due("27 b is kept", Games.response(stays, 'b', 'r', 0), "1/1");
        stays.tell(0, 1);
        Check.due("27 b is kept out", Games.response(stays, 'b', 'r', 0), "0/1");
    }
}
