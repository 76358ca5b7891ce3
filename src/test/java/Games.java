/**
 * Makes games from texts, one for a state, such as "a0* 1,2>013 0,0>1": the player, the colour, a
 * star for a target, then each choice with its two costs and the states for which it has weights;
 * a state that stands there twice has a weight of 2.
 */
final class Games {
    private Games() {
    }

    static Chanceledger of(String... states) {
        Chanceledger game = new Chanceledger();
        for (String state : states) {
            int number = game.addState(state.charAt(0), state.charAt(1) - '0');
            game.setTarget(number, state.length() > 2 && state.charAt(2) == '*');
        }
        for (int s = 0; s < states.length; s++) {
            String[] parts = states[s].split(" ");
            for (int c = 1; c < parts.length; c++) {
                addChoice(game, s, parts[c]);
            }
        }
        return game;
    }

    private static void addChoice(Chanceledger game, int state, String text) {
        int choice = game.addChoice(state, text.charAt(0) - '0', text.charAt(2) - '0');
        for (int i = 4; i < text.length(); i++) {
            game.addWeight(state, choice, text.charAt(i) - '0', 1);
        }
    }

    static String value(Chanceledger game, char aim, int state) {
        return game.above(aim, state) + "/" + game.below(aim, state);
    }

    static String byAll(Chanceledger game, char aim, int state) {
        return game.aboveByAll(aim, state) + "/" + game.belowByAll(aim, state);
    }

    static String chain(Chanceledger game, char aim, int state) {
        return game.chainAbove(aim, state) + "/" + game.chainBelow(aim, state);
    }

    static String response(Chanceledger game, char player, char aim, int state) {
        return game.responseAbove(player, aim, state) + "/" + game.responseBelow(player, aim, state);
    }

    static String trace(Chanceledger game, int state) {
        StringBuilder text = new StringBuilder();
        for (int i = 0; i < game.traceLength(state); i++) {
            text.append(game.traceAt(state, i));
        }
        return text + " " + game.traceAbove(state) + "/" + game.traceBelow(state);
    }
}
