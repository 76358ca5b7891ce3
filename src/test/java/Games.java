/**
 * Makes games from texts, one for a state, such as "a0* 1,2>013 0,0>1": the player, the colour, a
 * star for a target, then each choice with its two costs and the states for which it has weights;
 * a state that stands there twice has a weight of 2.
 */
final class Games {
    private Games() {
    }

    static Chanceledger of(String... states) {
        Chanceledger game = new Chanceledger();
        for (String state : states) {
            int number = game.addState(state.charAt(0), state.charAt(1) - '0');
            game.setTarget(number, state.length() > 2 && state.charAt(2) == '*');
        }
        for (int s = 0; s < states.length; s++) {
            String[] parts = states[s].split(" ");
            for (int c = 1; c < parts.length; c++) {
                addChoice(game, s, parts[c]);
            }
        }
        return game;
    }

    /** The same states that stand side by side are added as one weight. */
    private static void addChoice(Chanceledger game, int state, String text) {
        int choice = game.addChoice(state, text.charAt(0) - '0', text.charAt(2) - '0');
        for (int i = 4, end; i < text.length(); i = end) {
            end = endOfRun(text, i);
            game.addWeight(state, choice, text.charAt(i) - '0', end - i);
        }
    }

    private static int endOfRun(String text, int from) {
        int end = from;
        while (end < text.length() && text.charAt(end) == text.charAt(from)) {
            end++;
        }
        return end;
    }

    /** The number of calls of the object that making a game takes. */
    static int calls(String... states) {
        int calls = 0;
        for (String state : states) {
            String[] parts = state.split(" ");
            calls += 2 + parts.length - 1;
            for (int c = 1; c < parts.length; c++) {
                for (int i = 4; i < parts[c].length(); i = endOfRun(parts[c], i)) {
                    calls++;
                }
            }
        }
        return calls;
    }

    /** The oracle of a whole game made from the same texts. */
    static Oracle oracle(String... states) {
        Oracle oracle = new Oracle(states.length);
        for (int s = 0; s < states.length; s++) {
            oracle.player[s] = states[s].charAt(0);
            oracle.colour[s] = states[s].charAt(1) - '0';
            oracle.target[s] = states[s].length() > 2 && states[s].charAt(2) == '*';
            String[] parts = states[s].split(" ");
            for (int c = 1; c < parts.length; c++) {
                oracle.choices.get(s).add(choice(parts[c], states.length));
            }
        }
        return oracle;
    }

    private static Oracle.Choice choice(String text, int states) {
        int[] weight = new int[states];
        for (int i = 4; i < text.length(); i++) {
            weight[text.charAt(i) - '0']++;
        }
        return new Oracle.Choice(text.charAt(0) - '0', text.charAt(2) - '0', weight);
    }

    static String value(Chanceledger game, char aim, int state) {
        return game.above(aim, state) + "/" + game.below(aim, state);
    }

    static String byAll(Chanceledger game, char aim, int state) {
        return game.aboveByAll(aim, state) + "/" + game.belowByAll(aim, state);
    }

    static String chain(Chanceledger game, char aim, int state) {
        return game.chainAbove(aim, state) + "/" + game.chainBelow(aim, state);
    }

    static String response(Chanceledger game, char player, char aim, int state) {
        return game.responseAbove(player, aim, state) + "/" + game.responseBelow(player, aim, state);
    }

    static String told(Chanceledger game) {
        StringBuilder text = new StringBuilder();
        for (int s = 0; s < game.states(); s++) {
            text.append(game.told(s));
        }
        return text.toString();
    }

    static String trace(Chanceledger game, int state) {
        StringBuilder text = new StringBuilder();
        int length = game.traceLength(state);
        for (int i = 0; i < length; i++) {
            text.append(game.traceAt(state, i));
        }
        return text + " " + game.traceAbove(state) + "/" + game.traceBelow(state);
    }
}
