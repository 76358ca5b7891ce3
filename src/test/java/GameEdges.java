/** The boundary cases of promises 1 to 11. */
final class GameEdges {
    private GameEdges() {
    }

    static void run() {
        newObject();
        addStatePlayer();
        addStateColour();
        addStateFull();
        addChoiceState();
        addChoiceCosts();
        addChoiceFull();
        addWeightPlaces();
        addWeightRange();
        addWeightFull();
        setTarget();
        setDiscount();
        setWeights();
        states();
        choices();
        chance();
        chanceNoWeights();
        isWhole();
        for (Calls.OnState call : Calls.ON_ANY) {
            noSuchState(call);
        }
    }

    /** The first and the last state are found, the ones beside them are not. */
    static void noSuchState(Calls.OnState call) {
        String found = Edge.INDEX.getSimpleName();
        for (Sample base : Sample.values()) {
            int last = base.states.length - 1;
            if (call.promise() != 4 && call.promise() != 10) {
                Doc.says(call.promise(), "Throws `IndexOutOfBoundsException` if there is no such state");
            }
            Edge.refusedBeyond(call.name() + " state", Edge.INDEX, 0, last, base, call.act());
            if (base.isWhole()) {
                Doc.says(call.promise(), "- `state`: the state");
                String first = Picture.answer(() -> call.act().on(base.game(), 0));
                Check.due(call.name() + " first state", first.equals(found), false);
                Check.due(call.name() + " last state",
                        Picture.answer(() -> call.act().on(base.game(), last)).equals(found), false);
            }
        }
    }

    private static void newObject() {
        Doc.says(1, "Creates a game without states.");
        Check.due("states", new Chanceledger().states(), 0);
        Check.due("isWhole", new Chanceledger().isWhole(), false);
        Check.due("isConsistent", new Chanceledger().isConsistent(), true);
        Edge.refused("meanChoices", Edge.ARITHMETIC, Sample.EMPTY, Chanceledger::meanChoices);
        Edge.refused("classes", Edge.STATE, Sample.EMPTY, Chanceledger::classes);
        for (char aim : "rfsw".toCharArray()) {
            Edge.refused("solve " + aim, Edge.STATE, Sample.EMPTY, g -> g.solve(aim));
            for (Calls.ForAim call : Calls.FOR_AIMS) {
                Edge.refused(call.name() + aim, Edge.INDEX, Sample.EMPTY, g -> call.act().on(g, aim, 0));
            }
        }
        Chanceledger one = new Chanceledger();
        Chanceledger other = new Chanceledger();
        one.addState('a', 0);
        one.setDiscount(2, 3);
        one.setWeights(3, 3);
        Check.due("of its own", other.states() + " " + other.setDiscount(1, 3) + " " + other.setWeights(0, 0), "0 12 11");
    }

    private static void addStatePlayer() {
        Doc.says(2, "- `player`: the player to whom it belongs, 'a' or 'b'");
        Chanceledger game = new Chanceledger();
        Check.due("'a' and 'b'", game.addState('a', 0) + " " + game.addState('b', 0), "0 1");
        for (int s = 0; s < 2; s++) {
            game.addChoice(s, 1, 0);
            game.addChoice(s, 2, 0);
            game.addWeight(s, 0, s, 1);
            game.addWeight(s, 1, s, 1);
        }
        Check.due("'a' takes the greatest", Games.value(game, 'f', 0), "4/1");
        Check.due("'b' takes the least", Games.value(game, 'f', 1), "2/1");
        Doc.says(2, "Throws `IllegalArgumentException` if there is no such player or colour");
        for (Sample base : Sample.values()) {
            for (char wrong : Edge.beside("ab")) {
                Edge.refused("player " + (int) wrong, Edge.ARGUMENT, base, g -> g.addState(wrong, 0));
            }
        }
    }

    private static void addStateColour() {
        Doc.says(2, "- `colour`: its colour, 0 to 3");
        Chanceledger game = new Chanceledger();
        for (char player : "ab".toCharArray()) {
            for (int colour : new int[] {0, 3, 1}) {
                int state = game.addState(player, colour);
                game.addChoice(state, 0, 0);
                game.addWeight(state, 0, state, 1);
                Check.due("colour " + colour, game.chainAbove('p', state), colour == 0 ? 1L : 0L);
                Check.due("a class of its own for " + player + colour, game.classOf(state), state);
            }
        }
        Doc.says(2, "Throws `IllegalArgumentException` if there is no such player or colour");
        for (Sample base : Sample.values()) {
            Edge.refusedBeyond("colour", Edge.ARGUMENT, 0, 3, base, (g, wrong) -> g.addState('a', wrong));
            Edge.refusedBeyond("colour", Edge.ARGUMENT, 0, 3, base, (g, wrong) -> g.addState('b', wrong));
        }
    }

    private static void addStateFull() {
        Doc.says(2, "Returns the number of the state.");
        Chanceledger game = new Chanceledger();
        for (int s = 0; s < 6; s++) {
            Check.due("state", game.addState('b', 3), s);
        }
        Check.due("the last one", game.addState('a', 0), 6);
        Doc.says(2, "Throws `IllegalStateException` if there are 7 states");
        Check.thrown("an eighth one", Edge.STATE, () -> game.addState('a', 0));
        Check.thrown("an eighth one again", Edge.STATE, () -> game.addState('b', 3));
        Check.due("there are 7", game.states(), 7);
        Edge.refused("an eighth one of 'a'", Edge.STATE, Sample.FULL, g -> g.addState('a', 3));
        Edge.refused("an eighth one of 'b'", Edge.STATE, Sample.FULL, g -> g.addState('b', 0));
        Doc.says(2, "Adds a state without choices.");
        Chanceledger more = Sample.FOUR.game();
        int state = more.addState('b', 2);
        Check.due("no choices, none told", more.choices(state) + " " + more.told(state), "0 0");
        Check.thrown("no choice", Edge.INDEX, () -> more.chance(state, 0, 0));
        Check.due("the game is not whole any more", more.isWhole(), false);
        Check.due("no target", more.setTarget(state, false), false);
    }

    private static void addChoiceState() {
        Doc.says(3, "Adds a choice without weights.");
        Chanceledger game = Sample.FOUR.game();
        Check.due("behind the others", game.addChoice(3, 0, 0) + " " + game.addChoice(0, 9, 9), "1 2");
        Check.thrown("no weights", Edge.ARITHMETIC, () -> game.chance(3, 1, 3));
        Check.thrown("no weights of the last one", Edge.ARITHMETIC, () -> game.chance(0, 2, 0));
        Check.due("the game is not whole any more", game.isWhole(), false);
        Check.due("told as before", game.told(0) + " " + game.told(3), "1 0");
        Check.due("the others as before", game.chance(0, 1, 2) + " " + game.choices(1) + game.choices(2), "13 21");
    }

    private static void addChoiceCosts() {
        Doc.says(3, "- `first`: its first cost");
        Chanceledger game = new Chanceledger();
        game.addState('a', 0);
        game.addState('b', 0);
        for (int s = 0; s < 2; s++) {
            game.addChoice(s, s == 0 ? 0 : 9, 5);
            game.addWeight(s, 0, s, 1);
        }
        Check.due("0 and 9", Games.value(game, 'f', 0) + " " + Games.value(game, 'f', 1), "0/1 18/1");
        Doc.says(3, "- `second`: its second cost");
        Chanceledger other = new Chanceledger();
        other.addState('a', 0);
        other.addState('b', 0);
        for (int s = 0; s < 2; s++) {
            other.addChoice(s, 5, s == 0 ? 9 : 0);
            other.addWeight(s, 0, s, 1);
        }
        Check.due("9 and 0", Games.value(other, 's', 0) + " " + Games.value(other, 's', 1), "18/1 0/1");
        Doc.says(3, "Throws `IllegalArgumentException` if a cost is out of range");
        for (Sample base : Sample.values()) {
            if (base != Sample.EMPTY) {
                int last = base.states.length - 1;
                Edge.refusedBeyond("first cost", Edge.ARGUMENT, 0, 9, base, (g, wrong) -> g.addChoice(last, wrong, 0));
                Edge.refusedBeyond("second cost", Edge.ARGUMENT, 0, 9, base, (g, wrong) -> g.addChoice(0, 9, wrong));
                Edge.refusedBeyond("both costs", Edge.ARGUMENT, 0, 9, base, (g, wrong) -> g.addChoice(0, wrong, wrong));
            }
        }
    }

    private static void addChoiceFull() {
        Doc.says(3, "Returns the number of the choice.");
        Chanceledger game = new Chanceledger();
        for (int s = 0; s < 7; s++) {
            game.addState('a', 0);
        }
        for (int s = 0; s < 7; s++) {
            Check.due("three choices of " + s,
                    "" + game.addChoice(s, 0, 0) + game.addChoice(s, 0, 0) + game.addChoice(s, 9, 9), "012");
        }
        Doc.says(3, "Throws `IllegalStateException` if the state has 3 choices");
        for (int s = 0; s < 7; s++) {
            int state = s;
            Check.thrown("a fourth choice of " + s, Edge.STATE, () -> game.addChoice(state, 0, 0));
            Check.due("choices of " + s, game.choices(s), 3);
            Edge.refused("a fourth choice of " + s, Edge.STATE, Sample.FULL, g -> g.addChoice(state, 9, 9));
        }
        Chanceledger near = Games.of("a0 0,0>0 0,0>0 0,0>0", "a0 0,0>1 0,0>1");
        Check.thrown("a fourth one of the full state", Edge.STATE, () -> near.addChoice(0, 0, 0));
        Check.due("a third one of the other", near.addChoice(1, 0, 0), 2);
    }

    private static void addWeightPlaces() {
        Doc.says(4, "Throws `IndexOutOfBoundsException` if there is no such state, for either, or no such choice");
        for (Sample base : Sample.values()) {
            int last = base.states.length - 1;
            Edge.refusedBeyond("state", Edge.INDEX, 0, last, base, (g, wrong) -> g.addWeight(wrong, 0, 0, 1));
            Edge.refusedBeyond("to", Edge.INDEX, 0, last, base, (g, wrong) -> g.addWeight(0, 0, wrong, 1));
            Edge.refusedBeyond("both", Edge.INDEX, 0, last, base, (g, wrong) -> g.addWeight(wrong, 0, wrong, 1));
            for (int s = 0; s <= last; s++) {
                int state = s;
                int most = base.game().choices(s) - 1;
                Edge.refusedBeyond("choice", Edge.INDEX, 0, most, base, (g, wrong) -> g.addWeight(state, wrong, 0, 1));
            }
        }
        Doc.says(4, "- `choice`: the choice");
        Chanceledger game = Games.of("a0 0,0> 0,0> 0,0>", "b0", "b0", "b0", "b0", "b0", "b0 0,0> 0,0> 0,0>");
        Check.due("first of the first", game.addWeight(0, 0, 0, 1), 1);
        Check.due("last of the first", game.addWeight(0, 2, 6, 2), 2);
        Check.due("first of the last", game.addWeight(6, 0, 0, 3), 3);
        Check.due("last of the last", game.addWeight(6, 2, 6, 4), 4);
        Doc.says(4, "- `to`: the state for which it is");
        Check.due("to the first", game.chance(0, 0, 0) + " " + game.chance(6, 0, 0), "11 11");
        Check.due("to the last", game.chance(0, 2, 6) + " " + game.chance(6, 2, 6), "11 11");
        Check.due("to no other", game.chance(0, 0, 6) + " " + game.chance(6, 2, 0), "1 1");
        Check.thrown("of no other", Edge.ARITHMETIC, () -> game.chance(0, 1, 0));
    }

    private static void addWeightRange() {
        Doc.says(4, "- `weight`: what is added, 1 to 6");
        Chanceledger game = Games.of("a0 0,0> 0,0>");
        Check.due("the least", game.addWeight(0, 0, 0, 1), 1);
        Check.due("the greatest", game.addWeight(0, 1, 0, 6), 6);
        Doc.says(4, "Throws `IllegalArgumentException` if the weight is out of range");
        for (Sample base : Sample.values()) {
            if (base != Sample.EMPTY) {
                Edge.refusedBeyond("weight", Edge.ARGUMENT, 1, 6, base, (g, wrong) -> g.addWeight(0, 0, 0, wrong));
            }
        }
        Edge.refusedBeyond("first weight", Edge.ARGUMENT, 1, 6, Sample.PART, (g, wrong) -> g.addWeight(3, 1, 0, wrong));
        Edge.refusedBeyond("last weight", Edge.ARGUMENT, 1, 6, Sample.FULL, (g, wrong) -> g.addWeight(6, 2, 6, wrong));
    }

    private static void addWeightFull() {
        Doc.says(4, "Returns the sum of the weights of the choice.");
        Chanceledger game = Games.of("a0 0,0> 0,0> 0,0>", "b0 0,0>");
        Check.due("of one", game.addWeight(0, 0, 1, 1), 1);
        Check.due("of two states", game.addWeight(0, 0, 0, 4), 5);
        Check.due("just full", game.addWeight(0, 0, 1, 1), 6);
        Check.due("five and one", game.addWeight(0, 1, 0, 5) * 10 + game.addWeight(0, 1, 0, 1), 56);
        Check.due("one and five", game.addWeight(0, 2, 0, 1) * 10 + game.addWeight(0, 2, 1, 5), 16);
        Doc.says(4, "Throws `IllegalStateException` if the sum would be greater than 6");
        for (int weight = 1; weight <= 6; weight++) {
            int more = weight;
            Check.thrown("full and " + weight, Edge.STATE, () -> game.addWeight(0, 0, 0, more));
            Check.thrown("full and " + weight, Edge.STATE, () -> game.addWeight(0, 1, 1, more));
            Edge.refused("full and " + weight, Edge.STATE, Sample.FULL, g -> g.addWeight(0, 0, 0, more));
            Edge.refused("full and " + weight, Edge.STATE, Sample.FULL, g -> g.addWeight(6, 2, 6, more));
        }
        Edge.refused("3 and 4", Edge.STATE, Sample.FOUR, g -> g.addWeight(0, 1, 0, 4));
        Edge.refused("2 and 5", Edge.STATE, Sample.FOUR, g -> g.addWeight(0, 0, 3, 5));
        Edge.refused("1 and 6", Edge.STATE, Sample.FOUR, g -> g.addWeight(3, 0, 0, 6));
        Check.due("another choice has its own sum", game.addWeight(1, 0, 0, 6), 6);
        Doc.says(4, "Adds to the weight that a choice has for a state.");
        Check.due("1 of 6 and 5 of 6", game.chance(0, 2, 0) + " " + game.chance(0, 2, 1), "16 56");
        Check.due("2 of 6 and 4 of 6", game.chance(0, 0, 1) + " " + game.chance(0, 0, 0), "13 23");
    }

    private static void setTarget() {
        Doc.says(5, "- `isTarget`: true to make it a target");
        for (Sample base : new Sample[] {Sample.ONE, Sample.FULL}) {
            int last = base.states.length - 1;
            for (int state : new int[] {0, last}) {
                Chanceledger game = base.game();
                game.setTarget(state, true);
                Check.due("made one", Games.value(game, 'r', state) + game.isOne(state), "1/1true");
                game.setTarget(state, false);
                Check.due("made none", game.setTarget(state, false), false);
                Check.due("and no chance to come to another", base != Sample.ONE || game.isZero(state), true);
            }
        }
        Doc.says(5, "Returns true if it was one before.");
        Chanceledger game = Games.of("a0", "b0", "a0", "b0", "a0", "b0", "a0");
        for (int state : new int[] {0, 6}) {
            Check.due("none at first", game.setTarget(state, false), false);
            Check.due("none before", game.setTarget(state, true), false);
            Check.due("one before", game.setTarget(state, true), true);
        }
        for (int s = 1; s < 6; s++) {
            Check.due("not one beside it", game.setTarget(s, false), false);
        }
        Check.due("one no more", game.setTarget(0, false), true);
        Check.due("the last one still", game.setTarget(6, false), true);
        Check.due("none again", game.setTarget(0, true) + " " + game.setTarget(6, true), "false false");
    }

    private static void setDiscount() {
        int[][] allowed = {{1, 2}, {2, 3}, {1, 3}, {1, 2}};
        Doc.says(6, "- `above`: what is above, 1 or 2");
        Chanceledger game = Games.of("a0 2,0>0");
        Check.due("1 of 3", game.setDiscount(1, 3), 12);
        Check.due("its value", Games.value(game, 'f', 0), "3/1");
        Check.due("2 of 3", game.setDiscount(2, 3), 13);
        Check.due("its value", Games.value(game, 'f', 0), "6/1");
        Doc.says(6, "- `below`: what is below, 2 or 3, greater than what is above");
        Check.due("1 of 2", game.setDiscount(1, 2), 23);
        Check.due("its value", Games.value(game, 'f', 0), "4/1");
        Doc.says(6, "Returns 10 times what was above plus what was below.");
        for (int i = 0; i + 1 < allowed.length; i++) {
            int due = 10 * allowed[i][0] + allowed[i][1];
            Check.due("before", game.setDiscount(allowed[i + 1][0], allowed[i + 1][1]), due);
        }
        Doc.says(6, "Throws `IllegalArgumentException` if a number is out of range");
        for (Sample base : Sample.values()) {
            Edge.refusedBeyond("above", Edge.ARGUMENT, 1, 2, base, (g, wrong) -> g.setDiscount(wrong, 3));
            Edge.refusedBeyond("above", Edge.ARGUMENT, 1, 2, base, (g, wrong) -> g.setDiscount(wrong, 2));
            Edge.refusedBeyond("below", Edge.ARGUMENT, 2, 3, base, (g, wrong) -> g.setDiscount(1, wrong));
            Edge.refusedBeyond("below", Edge.ARGUMENT, 2, 3, base, (g, wrong) -> g.setDiscount(2, wrong));
            Edge.refusedBeyond("both", Edge.ARGUMENT, 1, 3, base, (g, wrong) -> g.setDiscount(wrong, wrong));
            Edge.refused("not less than 1", Edge.ARGUMENT, base, g -> g.setDiscount(2, 2));
            Edge.refused("3 of 3", Edge.ARGUMENT, base, g -> g.setDiscount(3, 3));
            Edge.refused("1 of 1", Edge.ARGUMENT, base, g -> g.setDiscount(1, 1));
        }
    }

    private static void setWeights() {
        Chanceledger game = Games.of("a0 1,4>0");
        Doc.says(7, "- `first`: the first weight, 0 to 3");
        Check.due("3 and 0", game.setWeights(3, 0), 11);
        Check.due("their value", Games.value(game, 'w', 0) + Games.byAll(game, 'w', 0), "6/16/1");
        Doc.says(7, "- `second`: the second weight, 0 to 3");
        Check.due("0 and 3", game.setWeights(0, 3), 30);
        Check.due("their value", Games.value(game, 'w', 0) + Games.byAll(game, 'w', 0), "24/124/1");
        Doc.says(7, "Returns 10 times the first weight plus the second one before.");
        Check.due("0 and 0", game.setWeights(0, 0), 3);
        Check.due("their value", Games.value(game, 'w', 0) + Games.byAll(game, 'w', 0), "0/10/1");
        Check.due("3 and 3", game.setWeights(3, 3), 0);
        Check.due("their value", Games.value(game, 'w', 0) + Games.byAll(game, 'w', 0), "30/130/1");
        Check.due("before", game.setWeights(1, 1), 33);
        Doc.says(7, "Throws `IllegalArgumentException` if a weight is out of range");
        for (Sample base : Sample.values()) {
            Edge.refusedBeyond("first", Edge.ARGUMENT, 0, 3, base, (g, wrong) -> g.setWeights(wrong, 0));
            Edge.refusedBeyond("first", Edge.ARGUMENT, 0, 3, base, (g, wrong) -> g.setWeights(wrong, 3));
            Edge.refusedBeyond("second", Edge.ARGUMENT, 0, 3, base, (g, wrong) -> g.setWeights(0, wrong));
            Edge.refusedBeyond("second", Edge.ARGUMENT, 0, 3, base, (g, wrong) -> g.setWeights(3, wrong));
            Edge.refusedBeyond("both", Edge.ARGUMENT, 0, 3, base, (g, wrong) -> g.setWeights(wrong, wrong));
        }
    }

    private static void states() {
        Doc.says(8, "Returns the number of states.");
        for (Sample base : Sample.values()) {
            Check.due("states of " + base, base.game().states(), base.states.length);
        }
        Check.due("none, one and seven", Sample.EMPTY.game().states() + " " + Sample.ONE.game().states() + " "
                + Sample.FULL.game().states(), "0 1 7");
    }

    private static void choices() {
        Doc.says(9, "Returns the number of choices.");
        Check.due("none", Sample.BARE.game().choices(1), 0);
        Check.due("one", Sample.ONE.game().choices(0), 1);
        Check.due("three of the first", Sample.FULL.game().choices(0), 3);
        Check.due("three of the last", Sample.FULL.game().choices(6), 3);
    }

    private static void chance() {
        Doc.says(10, "Throws `IndexOutOfBoundsException` if there is no such state, for either, or no such choice");
        for (Sample base : Sample.values()) {
            int last = base.states.length - 1;
            Edge.refusedBeyond("state", Edge.INDEX, 0, last, base, (g, wrong) -> g.chance(wrong, 0, 0));
            Edge.refusedBeyond("to", Edge.INDEX, 0, last, base, (g, wrong) -> g.chance(0, 0, wrong));
            Edge.refusedBeyond("both", Edge.INDEX, 0, last, base, (g, wrong) -> g.chance(wrong, 0, wrong));
            for (int s = 0; s <= last; s++) {
                int state = s;
                int most = base.game().choices(s) - 1;
                Edge.refusedBeyond("choice", Edge.INDEX, 0, most, base, (g, wrong) -> g.chance(state, wrong, 0));
            }
        }
        Doc.says(10, "- `choice`: the choice");
        Chanceledger full = Sample.FULL.game();
        Check.due("first and last of the first", full.chance(0, 0, 1) + " " + full.chance(0, 2, 5), "23 12");
        Check.due("first and last of the last", full.chance(6, 0, 6) + " " + full.chance(6, 2, 6), "11 1");
        Doc.says(10, "- `to`: the state to which it leads");
        Check.due("the first and the last", full.chance(6, 1, 0) + " " + full.chance(2, 2, 6), "16 16");
        Doc.says(10, "Returns 10 times what is above plus what is below.");
        int[][] due = {{11}, {1, 11, 12}, {1, 13, 23, 11}, {1, 14, 12, 34, 11}, {1, 15, 25, 35, 45, 11},
            {1, 16, 13, 12, 23, 56, 11}};
        for (int sum = 2; sum <= 6; sum++) {
            for (int weight = 0; weight <= sum; weight++) {
                Chanceledger game = Games.of("a0 0,0>" + "0".repeat(weight) + "1".repeat(sum - weight), "a0");
                int want = sum == 2 ? new int[] {1, 12, 11}[weight] : due[sum - 1][weight];
                Check.due(weight + " of " + sum, game.chance(0, 0, 0), want);
            }
        }
        Check.due("1 of 1", Sample.ONE.game().chance(0, 0, 0), 11);
    }

    private static void chanceNoWeights() {
        Doc.says(10, "Throws `ArithmeticException` if the choice has no weights");
        for (int t = 0; t < 4; t++) {
            int to = t;
            Edge.refused("no weights for " + t, Edge.ARITHMETIC, Sample.PART, g -> g.chance(3, 1, to));
        }
        Chanceledger game = Sample.PART.game();
        game.addWeight(3, 1, 0, 1);
        Check.due("the least weights", game.chance(3, 1, 0) + " " + game.chance(3, 1, 3), "11 1");
    }

    private static void isWhole() {
        Doc.says(11, "Returns true if it is whole.");
        Chanceledger game = new Chanceledger();
        Check.due("no states", game.isWhole(), false);
        for (int s = 0; s < 7; s++) {
            game.addState('a', 0);
            Check.due("no choices of " + s, game.isWhole(), false);
            for (int c = 0; c < 3; c++) {
                game.addChoice(s, 0, 0);
                Check.due("no weights of " + s + c, game.isWhole(), false);
                game.addWeight(s, c, 0, 1);
                Check.due("whole with " + s + c, game.isWhole(), true);
            }
        }
        game.setTarget(0, true);
        game.setWeights(0, 0);
        game.tell(6, 2);
        Check.due("whole as before", game.isWhole(), true);
    }
}
