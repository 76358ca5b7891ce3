import java.util.ArrayList;
import java.util.List;

/**
 * All that a game answers, as a text, so that two games can be told apart. A part of it takes fewer
 * calls than an object may have; reading one may change the game, which is thrown away behind it.
 */
final class Picture {
    static final int PARTS = 3;

    private final Chanceledger game;
    private final List<String> lines = new ArrayList<>();

    private Picture(Chanceledger game) {
        this.game = game;
    }

    static String of(Chanceledger game, int part) {
        Picture picture = new Picture(game);
        if (part == 0) {
            picture.putIn();
        } else {
            picture.makeWhole();
            int states = game.states();
            for (int s = 0; s < states; s++) {
                if (part == 1) {
                    picture.values(s);
                } else {
                    picture.chain(s);
                }
            }
        }
        return String.join("\n", picture.lines);
    }

    /** What a call answers, or the name of what it throws. */
    static String answer(Check.Call call) {
        try {
            return String.valueOf(call.run());
        } catch (Exception e) {
            return e.getClass().getSimpleName();
        }
    }

    private void line(String name, Check.Call call) {
        lines.add(name + " " + answer(call));
    }

    private void putIn() {
        int states = game.states();
        lines.add("states " + states);
        line("isWhole", () -> game.isWhole());
        line("meanChoices", () -> game.meanChoices());
        for (int i = 0; i < states; i++) {
            int s = i;
            int choices = game.choices(s);
            lines.add("choices " + s + " " + choices);
            line("told " + s, () -> game.told(s));
            for (int c = 0; c < choices; c++) {
                chances(s, c, states);
            }
        }
        for (int i = 0; i < states; i++) {
            int s = i;
            line("target " + s, () -> game.setTarget(s, false));
        }
        line("discount", () -> game.setDiscount(1, 2));
        line("weights", () -> game.setWeights(1, 1));
    }

    private void chances(int state, int choice, int states) {
        for (int i = 0; i < states; i++) {
            int to = i;
            line("chance " + state + choice + to, () -> game.chance(state, choice, to));
        }
    }

    /** Players, colours and costs are seen by their effect alone, which a whole game has. */
    private void makeWhole() {
        if (game.states() == 0) {
            game.addState('a', 0);
        }
        int states = game.states();
        for (int s = 0; s < states && !game.isWhole(); s++) {
            if (game.choices(s) == 0) {
                game.addChoice(s, 1, 2);
            }
            int choices = game.choices(s);
            for (int c = 0; c < choices; c++) {
                addMissingWeight(s, c, states);
            }
        }
    }

    private void addMissingWeight(int state, int choice, int states) {
        if (answer(() -> game.chance(state, choice, state)).equals("ArithmeticException")) {
            game.addWeight(state, choice, (state + 1) % states, 1);
        }
    }

    private void values(int s) {
        for (char aim : "rfsw".toCharArray()) {
            line("value " + aim + s, () -> Games.value(game, aim, s));
            line("by all " + aim + s, () -> game.aboveByAll(aim, s));
        }
        line("isZero " + s, () -> game.isZero(s));
        line("isOne " + s, () -> game.isOne(s));
        line("bound " + s, () -> game.bound(s, 60));
    }

    private void chain(int s) {
        for (char aim : "rfswmp".toCharArray()) {
            line("chain " + aim + s, () -> Games.chain(game, aim, s));
        }
        for (char aim : "rfsw".toCharArray()) {
            line("response a" + aim + s, () -> Games.response(game, 'a', aim, s));
            line("response b" + aim + s, () -> Games.response(game, 'b', aim, s));
        }
        line("closedOf " + s, () -> game.closedOf(s));
        line("endOf " + s, () -> game.endOf(s));
        line("classOf " + s, () -> game.classOf(s));
        line("trace " + s, () -> Games.trace(game, s));
    }
}
