/** The boundary cases of promises 22 to 28. */
final class StrategiesEdges {
    private static final Sample[] WHOLE = {Sample.ONE, Sample.FOUR, Sample.FULL};

    private StrategiesEdges() {
    }

    static void run() {
        for (Calls.ForAim call : Calls.FOR_AIMS) {
            if (call.promise() >= 25) {
                ValuesEdges.refusals(call);
            }
        }
        solveAims();
        solveChanges();
        solveFull();
        tellChoices();
        tell();
        told();
        chainAims();
        chains();
        responsePlayers();
        responseAims();
        responses();
    }

    private static void solveAims() {
        Doc.says(22, "- `aim`: the aim, 'r', 'f', 's' or 'w'");
        Chanceledger game = Games.of("a0 3,0>0 0,3>0 2,2>0", "a0 0,0>0 0,0>2", "a0* 0,0>2");
        game.tell(1, 1);
        Check.due("f", game.solve('f') + Games.told(game), "1000");
        Check.due("s", game.solve('s') + Games.told(game), "1100");
        Check.due("w", game.solve('w') + Games.told(game), "1200");
        Check.due("r", game.solve('r') + Games.told(game), "2010");
        Doc.says(22, "Throws `IllegalArgumentException` if there is no such aim");
        for (Sample base : Sample.values()) {
            for (char wrong : Edge.beside("rfsw")) {
                Edge.refused("solve aim " + (int) wrong, Edge.ARGUMENT, base, g -> g.solve(wrong));
            }
        }
        Doc.says(22, "Throws `IllegalStateException` if the game is not whole");
        for (Sample base : new Sample[] {Sample.EMPTY, Sample.BARE, Sample.PART}) {
            for (char aim : "rfsw".toCharArray()) {
                Edge.refused("solve " + aim, Edge.STATE, base, g -> g.solve(aim));
            }
        }
    }

    private static void solveChanges() {
        Doc.says(22, "Returns the number of states whose told choice is another one than before.");
        Chanceledger game = Games.of("a0 0,0>0 0,0>0 1,0>0", "a0 0,0>1 0,0>1 1,0>1", "a0 0,0>2 0,0>2 1,0>2",
                "b0 1,0>3 1,0>3 0,0>3", "b0 1,0>4 1,0>4 0,0>4", "b0 1,0>5 1,0>5 0,0>5", "b0 1,0>6 1,0>6 0,0>6");
        Check.due("all of seven", game.solve('f') + " " + Games.told(game), "7 2222222");
        Check.due("none of seven", game.solve('f') + " " + Games.told(game), "0 2222222");
        game.tell(6, 1);
        Check.due("the last one alone", game.solve('f') + " " + Games.told(game), "1 2222222");
        game.tell(0, 1);
        Check.due("the first one alone", game.solve('f') + " " + Games.told(game), "1 2222222");
        Check.due("back, all of seven", game.solve('r') + " " + Games.told(game), "7 0000000");
        Check.due("the least game", Sample.ONE.game().solve('w'), 0);
        Chanceledger two = Games.of("b0 1,0>0 0,0>0");
        Check.due("one of one", two.solve('f') + two.solve('f') + " " + Games.told(two), "1 1");
    }

    private static void solveFull() {
        Doc.says(22, "Solves the game for an aim, and tells strategies.");
        for (Sample base : WHOLE) {
            Oracle oracle = base.oracle();
            for (char aim : "rfsw".toCharArray()) {
                Fraction[] values = oracle.values(aim);
                int[] solved = oracle.solved(aim, values);
                Chanceledger game = base.game();
                int others = 0;
                for (int s = 0; s < solved.length; s++) {
                    others += solved[s] == oracle.told[s] ? 0 : 1;
                }
                Check.due("solve " + base + aim, game.solve(aim), others);
                for (int s = 0; s < solved.length; s++) {
                    Check.due("told " + base + aim + s, game.told(s), solved[s]);
                    Check.due("chain " + base + aim + s, Games.chain(game, aim, s), values[s].toString());
                    Check.due("value " + base + aim + s, Games.value(game, aim, s), values[s].toString());
                    Check.due("by all " + base + aim + s, Games.byAll(game, aim, s), values[s].toString());
                }
            }
        }
    }

    private static void tellChoices() {
        Doc.says(23, "- `state`: the state");
        Chanceledger game = Sample.FULL.game();
        Check.due("the first", game.tell(0, 2) + " " + Games.told(game), "1 2201201");
        Check.due("the last", game.tell(6, 0) + " " + Games.told(game), "1 2201200");
        Doc.says(23, "- `choice`: the choice");
        for (int s : new int[] {0, 6}) {
            for (int c : new int[] {0, 2, 1, 0}) {
                game.tell(s, c);
                Check.due("told " + s, game.told(s), c);
            }
        }
        Doc.says(23, "Throws `IndexOutOfBoundsException` if there is no such state or choice");
        for (Sample base : Sample.values()) {
            for (int s = 0; s < base.states.length; s++) {
                int state = s;
                int most = base.game().choices(s) - 1;
                Edge.refusedBeyond("choice of " + s, Edge.INDEX, 0, most, base, (g, wrong) -> g.tell(state, wrong));
            }
            int last = base.states.length - 1;
            Edge.refusedBeyond("state", Edge.INDEX, 0, last, base, (g, wrong) -> g.tell(wrong, wrong));
        }
    }

    private static void tell() {
        Doc.says(23, "Returns the told choice before.");
        Chanceledger game = Games.of("a0 0,0>0 0,0>0 0,0>0", "b0 0,0>1");
        Check.due("at first", game.tell(0, 2), 0);
        Check.due("before", game.tell(0, 2), 2);
        Check.due("before, again", game.tell(0, 0), 2);
        Check.due("0 before", game.tell(0, 0), 0);
        Check.due("the other one", game.tell(1, 0), 0);
        Doc.says(23, "Sets the told choice of a state.");
        Chanceledger part = Games.of("a0 0,0> 0,0> 0,0>");
        Check.due("without weights", part.tell(0, 2) + " " + part.told(0), "0 2");
        Chanceledger first = Games.of("a0");
        Check.thrown("without choices", Edge.INDEX, () -> first.tell(0, 0));
        first.addChoice(0, 0, 0);
        Check.thrown("one choice, not two", Edge.INDEX, () -> first.tell(0, 1));
        Check.due("one choice", first.tell(0, 0), 0);
    }

    private static void told() {
        Doc.says(24, "Returns the choice.");
        Check.due("no choices", Sample.BARE.game().told(1), 0);
        Check.due("told 1", Sample.BARE.game().told(0), 1);
        Check.due("of the full one", Games.told(Sample.FULL.game()), "1201201");
        Chanceledger game = Games.of("a0 0,0>0 0,0>0");
        game.tell(0, 1);
        game.addChoice(0, 0, 0);
        game.addState('b', 0);
        Check.due("as before behind more choices and states", Games.told(game), "10");
    }

    private static void chainAims() {
        for (int promise : new int[] {25, 26}) {
            Doc.says(promise, "- `aim`: the aim, 'r', 'f', 's', 'w', 'm' or 'p'");
            for (Sample base : WHOLE) {
                Oracle oracle = base.oracle();
                Chanceledger game = base.game();
                for (char aim : "rfswmp".toCharArray()) {
                    Fraction[] due = oracle.chain(aim, oracle.told);
                    for (int s = 0; s < due.length; s++) {
                        long got = promise == 25 ? game.chainAbove(aim, s) : game.chainBelow(aim, s);
                        long want = (promise == 25 ? due[s].up : due[s].down).longValueExact();
                        Check.due("chain " + base + aim + s, got, want);
                    }
                }
            }
        }
    }

    private static void chains() {
        Chanceledger ring = Games.of("a3 0,0>1", "b2 9,0>2", "a3 9,0>3", "b3 9,0>4", "a3 9,0>5", "b3 9,0>6", "a3 9,0>0");
        Chanceledger alone = Games.of("a0 9,9>0", "b1 0,0>1", "a2 9,0>2", "b3 0,9>3");
        Doc.says(25, "Returns what is above.");
        Check.due("of all seven", Games.chain(ring, 'm', 0) + " " + Games.chain(ring, 'm', 6), "54/7 54/7");
        Check.due("least of all seven", Games.chain(ring, 'p', 0) + " " + Games.chain(ring, 'p', 6), "1/1 1/1");
        Doc.says(26, "Returns what is below.");
        String[] means = {"9/1", "0/1", "9/1", "0/1"};
        String[] colours = {"1/1", "0/1", "1/1", "0/1"};
        for (int s = 0; s < 4; s++) {
            Check.due("mean " + s, Games.chain(alone, 'm', s), means[s]);
            Check.due("colour " + s, Games.chain(alone, 'p', s), colours[s]);
            Check.due("no targets " + s, Games.chain(alone, 'r', s), "0/1");
        }
        Chanceledger many = Games.of("a0 0,0>123456", "b0 1,0>1", "b1 2,0>2", "b0 4,0>3", "b1 5,0>4", "b2 7,0>5",
                "b3 9,0>6");
        Check.due("six closed sets", Games.chain(many, 'm', 0) + " " + Games.chain(many, 'p', 0), "14/3 1/2");
        Chanceledger rare = Games.of("a0 9,0>000001", "a1 0,0>111112", "a0 0,0>222223", "a1 0,0>333334",
                "a0 0,0>444445", "a1 0,0>555556", "a0* 9,0>6");
        Check.due("the long way's costs are nothing", Games.chain(rare, 'm', 0) + Games.chain(rare, 'p', 0), "9/11/1");
        Check.due("the long way is gone for sure", Games.chain(rare, 'r', 0), "1/1");
    }

    private static void responsePlayers() {
        Chanceledger game = Games.of("a0 1,0>0 2,0>0", "b0 3,0>1 4,0>1");
        for (int promise : new int[] {27, 28}) {
            Doc.says(promise, "- `player`: the player who keeps to the told strategy, 'a' or 'b'");
            Check.due("'a' keeps", Games.response(game, 'a', 'f', 0) + " " + Games.response(game, 'a', 'f', 1), "2/1 6/1");
            Check.due("'b' keeps", Games.response(game, 'b', 'f', 0) + " " + Games.response(game, 'b', 'f', 1), "4/1 6/1");
            Doc.says(promise, "Throws `IllegalArgumentException` if there is no such player or aim");
            for (Sample base : Sample.values()) {
                for (char wrong : Edge.beside("ab")) {
                    Edge.refused("player " + (int) wrong, Edge.ARGUMENT, base, g -> promise == 27
                            ? g.responseAbove(wrong, 'r', 0) : g.responseBelow(wrong, 'r', 0));
                }
            }
            game.tell(1, 1);
            Check.due("'b' keeps to the other", Games.response(game, 'b', 'f', 1), "8/1");
            Check.due("'b' is free", Games.response(game, 'a', 'f', 1), "6/1");
            game.tell(1, 0);
        }
    }

    private static void responseAims() {
        for (int promise : new int[] {27, 28}) {
            Doc.says(promise, "- `aim`: the aim, 'r', 'f', 's' or 'w'");
            for (Sample base : WHOLE) {
                Oracle oracle = base.oracle();
                Chanceledger game = base.game();
                for (char player : "ab".toCharArray()) {
                    for (char aim : "rfsw".toCharArray()) {
                        Fraction[] due = oracle.response(player, aim);
                        for (int s = 0; s < due.length; s++) {
                            long got = promise == 27 ? game.responseAbove(player, aim, s)
                                    : game.responseBelow(player, aim, s);
                            long want = (promise == 27 ? due[s].up : due[s].down).longValueExact();
                            Check.due("response " + base + player + aim + s, got, want);
                        }
                    }
                }
            }
        }
    }

    private static void responses() {
        Chanceledger alone = Games.of("a0 1,0>1 2,0>0", "a0* 3,0>0 4,0>1");
        Doc.says(27, "Returns what is above.");
        Check.due("no one to answer", Games.response(alone, 'a', 'f', 0) + Games.response(alone, 'a', 'r', 0), "10/31/1");
        Check.due("no one who keeps", Games.response(alone, 'b', 'f', 0) + Games.response(alone, 'b', 'r', 0), "5/11/1");
        Doc.says(28, "Returns what is below.");
        Chanceledger away = Games.of("b0 0,0>1 0,0>1 0,0>0", "a0 0,0>2 0,0>0 0,0>3", "a0* 0,0>2", "b0 0,0>23");
        Check.due("'b' keeps away for good", Games.response(away, 'a', 'r', 0) + Games.response(away, 'a', 'r', 1),
                "0/11/1");
        Check.due("'a' goes at once", Games.response(away, 'b', 'r', 0) + Games.response(away, 'b', 'r', 1), "1/11/1");
        away.tell(1, 1);
        Check.due("'a' keeps to turning back", Games.response(away, 'a', 'r', 1), "0/1");
        away.tell(0, 2);
        Check.due("'b' keeps to staying", Games.response(away, 'b', 'r', 0) + Games.response(away, 'b', 'r', 1), "0/11/1");
    }
}
