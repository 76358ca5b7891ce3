/** The boundary cases that the document's terms name for many promises at once. */
final class TermsEdges {
    private static final int MOST_CALLS = 512;

    private TermsEdges() {
    }

    static void run() {
        lastCall();
        dearestCalls();
        refusedInARow();
        firstListed();
        firstListedOfGame();
        limits();
        atFirst();
        whole();
        aims();
        costAims();
        longRunAims();
        valuesAreHeld();
        fractions();
        lowestGood();
        ranks();
        classesOfLikeStates();
        components();
        traces();
    }

    /** Whatever came before, the last call that is promised answers as an early one does. */
    private static void lastCall() {
        Doc.says(0, "An object is used for at most 512 calls after it has been made");
        for (Calls.ForAim call : Calls.FOR_AIMS) {
            for (char aim : call.aims().toCharArray()) {
                String due = Picture.answer(() -> call.act().on(Sample.FOUR.game(), aim, 0));
                Chanceledger used = usedUp(Sample.FOUR);
                Check.due("512th call " + call.name() + aim, Picture.answer(() -> call.act().on(used, aim, 0)), due);
            }
        }
        for (Calls.OnState call : Calls.ON_WHOLE) {
            String due = Picture.answer(() -> call.act().on(Sample.FOUR.game(), 0));
            Chanceledger used = usedUp(Sample.FOUR);
            Check.due("512th call " + call.name(), Picture.answer(() -> call.act().on(used, 0)), due);
        }
        for (Calls.OnState call : Calls.ON_ANY) {
            String due = Picture.answer(() -> call.act().on(Sample.FOUR.game(), 0));
            Chanceledger used = usedUp(Sample.FOUR);
            Check.due("512th call " + call.name(), Picture.answer(() -> call.act().on(used, 0)), due);
        }
        Check.due("512th call solve", usedUp(Sample.FOUR).solve('r'), Sample.FOUR.game().solve('r'));
        Check.due("512th call classes", usedUp(Sample.FOUR).classes(), 4);
        Check.due("512th call states", usedUp(Sample.FOUR).states(), 4);
        Check.due("512th call isWhole", usedUp(Sample.FOUR).isWhole(), true);
        Check.due("512th call meanChoices", usedUp(Sample.FOUR).meanChoices(), 1.5);
        Check.due("512th call isConsistent", usedUp(Sample.FOUR).isConsistent(), true);
        Check.due("512th call addState", usedUp(Sample.FOUR).addState('b', 3), 4);
        Check.due("512th call setDiscount", usedUp(Sample.FOUR).setDiscount(1, 2), 23);
        Check.due("512th call setWeights", usedUp(Sample.FOUR).setWeights(0, 0), 23);
    }

    /** A game with one call left; it stands as it did at first. */
    private static Chanceledger usedUp(Sample base) {
        Chanceledger game = base.game();
        for (int calls = base.calls(); calls < MOST_CALLS - 1; calls++) {
            switch (calls % 5) {
                case 0: game.belowByAll('w', 0); break;
                case 1: game.chainAbove('m', 0); break;
                case 2: Check.thrown("refused", Edge.INDEX, () -> game.told(-1)); break;
                case 3: game.isConsistent(); break;
                default: game.responseBelow('b', 'r', 0);
            }
        }
        return game;
    }

    /** Changes between the calls, so that nothing that was found can be told again. */
    private static void dearestCalls() {
        Chanceledger game = Sample.FULL.game();
        for (int calls = Sample.FULL.calls(); calls + 4 <= MOST_CALLS; calls += 4) {
            game.setWeights(calls % 3, calls % 2);
            Check.due("isConsistent behind " + calls, game.isConsistent(), true);
            game.setWeights(2, 3);
            Check.due("aboveByAll behind " + calls, game.aboveByAll('w', 0), 3922959L);
        }
    }

    /** On one object, one refused call behind another. */
    private static void refusedInARow() {
        Doc.says(0, "A method that throws an exception changes nothing.");
        for (Sample base : Sample.values()) {
            for (int part = 0; part < Picture.PARTS; part++) {
                Chanceledger game = base.game();
                refuseAll(game, base.states.length);
                String due = Picture.of(base.game(), part);
                Check.due("refused in a row (" + base + ") changed something", Picture.of(game, part), due);
            }
        }
    }

    private static void refuseAll(Chanceledger game, int wrong) {
        Check.thrown("addState player", Edge.ARGUMENT, () -> game.addState('c', 0));
        Check.thrown("addState colour", Edge.ARGUMENT, () -> game.addState('a', 4));
        Check.thrown("setDiscount", Edge.ARGUMENT, () -> game.setDiscount(2, 2));
        Check.thrown("setWeights", Edge.ARGUMENT, () -> game.setWeights(1, 4));
        Check.thrown("solve", Edge.ARGUMENT, () -> game.solve('m'));
        for (Calls.OnState call : Calls.ON_ANY) {
            Check.thrown(call.name(), Edge.INDEX, () -> call.act().on(game, wrong));
        }
        for (Calls.OnState call : Calls.ON_WHOLE) {
            Check.thrown(call.name(), Edge.INDEX, () -> call.act().on(game, wrong));
        }
        for (Calls.ForAim call : Calls.FOR_AIMS) {
            Check.thrown(call.name(), Edge.INDEX, () -> call.act().on(game, 'r', wrong));
            Check.thrown(call.name(), Edge.ARGUMENT, () -> call.act().on(game, 'x', 0));
        }
    }

    private static void firstListed() {
        Doc.says(0, "If several conditions for an exception hold, the exception that is listed first is thrown.");
        for (Sample base : Sample.values()) {
            int wrong = base.states.length;
            for (Calls.ForAim call : Calls.FOR_AIMS) {
                Edge.refused(call.name() + " aim, state", Edge.ARGUMENT, base, g -> call.act().on(g, 'x', wrong));
            }
            Edge.refused("bound state, rounds", Edge.INDEX, base, g -> g.bound(wrong, 61));
            Edge.refused("response player, state", Edge.ARGUMENT, base, g -> g.responseAbove('c', 'r', wrong));
            Edge.refused("response player, state", Edge.ARGUMENT, base, g -> g.responseBelow('c', 'r', wrong));
            Edge.refused("traceAt state, index", Edge.INDEX, base, g -> g.traceAt(wrong, -1));
            if (!base.isWhole()) {
                firstListedOfPart(base, wrong);
            }
        }
    }

    private static void firstListedOfPart(Sample base, int wrong) {
        for (Calls.ForAim call : Calls.FOR_AIMS) {
            Edge.refused(call.name() + " state, whole", Edge.INDEX, base, g -> call.act().on(g, 'r', wrong));
            Edge.refused(call.name() + " aim, whole", Edge.ARGUMENT, base, g -> call.act().on(g, 'x', 0));
        }
        for (Calls.OnState call : Calls.ON_WHOLE) {
            Edge.refused(call.name() + " state, whole", Edge.INDEX, base, g -> call.act().on(g, wrong));
        }
        Edge.refused("solve aim, whole", Edge.ARGUMENT, base, g -> g.solve('m'));
        if (base.states.length > 0) {
            Edge.refused("bound rounds, whole", Edge.ARGUMENT, base, g -> g.bound(0, -1));
            Edge.refused("bound rounds, whole", Edge.ARGUMENT, base, g -> g.bound(0, 61));
            Edge.refused("response player, whole", Edge.ARGUMENT, base, g -> g.responseAbove('c', 'r', 0));
            Edge.refused("response player, whole", Edge.ARGUMENT, base, g -> g.responseBelow('c', 'r', 0));
            Edge.refused("closedOf whole, none", Edge.STATE, base, g -> g.closedOf(0));
            Edge.refused("endOf whole, none", Edge.STATE, base, g -> g.endOf(0));
            Edge.refused("traceLength whole, none", Edge.STATE, base, g -> g.traceLength(1));
            Edge.refused("traceAt whole, no such state", Edge.STATE, base, g -> g.traceAt(1, -1));
            Edge.refused("traceAbove whole, none", Edge.STATE, base, g -> g.traceAbove(1));
            Edge.refused("traceBelow whole, none", Edge.STATE, base, g -> g.traceBelow(1));
        }
    }

    private static void firstListedOfGame() {
        Edge.refused("addState player, full", Edge.ARGUMENT, Sample.FULL, g -> g.addState('c', 0));
        Edge.refused("addState colour, full", Edge.ARGUMENT, Sample.FULL, g -> g.addState('a', 4));
        Edge.refused("addState colour, full", Edge.ARGUMENT, Sample.FULL, g -> g.addState('b', -1));
        Edge.refused("addChoice cost, full", Edge.ARGUMENT, Sample.FULL, g -> g.addChoice(0, 10, 0));
        Edge.refused("addChoice cost, full", Edge.ARGUMENT, Sample.FULL, g -> g.addChoice(6, 0, -1));
        Edge.refused("addWeight weight, full", Edge.ARGUMENT, Sample.FULL, g -> g.addWeight(0, 0, 0, 7));
        Edge.refused("addWeight weight, full", Edge.ARGUMENT, Sample.FULL, g -> g.addWeight(6, 2, 6, 0));
        for (Sample base : Sample.values()) {
            int wrong = base.states.length;
            Edge.refused("addChoice state, cost", Edge.INDEX, base, g -> g.addChoice(wrong, 10, -1));
            Edge.refused("addWeight state, weight", Edge.INDEX, base, g -> g.addWeight(wrong, 0, 0, 7));
            Edge.refused("addWeight choice, weight", Edge.INDEX, base, g -> g.addWeight(0, 3, 0, 0));
            Edge.refused("addWeight to, weight", Edge.INDEX, base, g -> g.addWeight(0, 0, wrong, 7));
            Edge.refused("addWeight to, sum", Edge.INDEX, base, g -> g.addWeight(0, 0, wrong, 6));
        }
        Edge.refused("chance to, no weights", Edge.INDEX, Sample.PART, g -> g.chance(3, 1, 4));
        Edge.refused("chance to, no weights", Edge.INDEX, Sample.PART, g -> g.chance(3, 1, -1));
    }

    private static void limits() {
        Doc.says(0, "There are at most 7 states, numbered from 0.");
        Chanceledger game = new Chanceledger();
        for (int s = 0; s < 7; s++) {
            Check.due("states before " + s, game.states(), s);
            Check.due("state " + s, game.addState("ab".charAt(s % 2), s % 4), s);
        }
        Check.thrown("an eighth state", Edge.STATE, () -> game.addState('a', 0));
        Check.due("states", game.states(), 7);
        Doc.says(0, "A state has at most 3 choices, numbered from 0.");
        for (int s : new int[] {0, 6}) {
            for (int c = 0; c < 3; c++) {
                Check.due("choices before " + c, game.choices(s), c);
                Check.due("choice " + c, game.addChoice(s, 0, 9), c);
            }
            Check.thrown("a fourth choice", Edge.STATE, () -> game.addChoice(s, 0, 9));
            Check.due("choices", game.choices(s), 3);
        }
        Doc.says(0, "A choice has a first and a second cost, both from 0 to 9, and weights for states, all 0 at first, "
                + "whose sum is at most 6.");
        for (int t = 0; t < 7; t++) {
            int to = t;
            Check.thrown("no weights at first", Edge.ARITHMETIC, () -> game.chance(6, 2, to));
        }
        Check.due("one weight of 6", game.addWeight(6, 2, 6, 1), 1);
        for (int t = 0; t < 6; t++) {
            Check.due("0 at first for " + t, game.chance(6, 2, t), 1);
        }
        Check.due("a sum of 6", game.addWeight(6, 2, 0, 5), 6);
        Check.thrown("a sum of 7", Edge.STATE, () -> game.addWeight(6, 2, 6, 1));
        Check.due("the sum stays", game.chance(6, 2, 0) + " " + game.chance(6, 2, 6), "56 16");
    }

    private static void atFirst() {
        Doc.says(0, "has a colour from 0 to 3, and is a target or not, at first not.");
        Chanceledger game = new Chanceledger();
        for (int s = 0; s < 4; s++) {
            game.addState('a', s);
            game.addChoice(s, 1, 4);
            game.addWeight(s, 0, s, 1);
            Check.due("colour " + s, game.chainAbove('p', s), s % 2 == 0 ? 1L : 0L);
            Check.due("no target at first", Games.value(game, 'r', s), "0/1");
        }
        for (int s = 0; s < 4; s++) {
            Check.due("no target before", game.setTarget(s, false), false);
        }
        Doc.says(0, "The discount is a fraction, 1 of 2 at first; the weights are whole numbers, both 1 at first.");
        Check.due("discount at first", Games.value(game, 'f', 0), "2/1");
        Check.due("weights at first", Games.value(game, 'w', 0), "10/1");
        Check.due("discount, weights", game.setDiscount(1, 3) + " " + game.setWeights(0, 0), "12 11");
        Doc.says(0, "Each state has a told choice, 0 at first");
        Chanceledger told = Games.of("a0 1,0>0 2,0>0 3,0>0", "b0 1,0>1 2,0>1 3,0>1", "a0");
        Check.due("told at first", told.told(0) + " " + told.told(1) + " " + told.told(2), "0 0 0");
        told.addChoice(2, 7, 0);
        told.addWeight(2, 0, 2, 1);
        told.addChoice(2, 9, 0);
        told.addWeight(2, 1, 2, 1);
        Check.due("still 0 with choices", told.told(2), 0);
        Check.due("the chain is that of 0", Games.chain(told, 'f', 2), "14/1");
    }

    private static void whole() {
        Doc.says(0, "The game is whole if there are states, each state has a choice, and each choice has a sum of "
                + "weights greater than 0.");
        Check.due("no states", Sample.EMPTY.game().isWhole(), false);
        Check.due("a state without choices", Sample.BARE.game().isWhole(), false);
        Check.due("a choice without weights", Sample.PART.game().isWhole(), false);
        Check.due("the least one", Sample.ONE.game().isWhole(), true);
        Check.due("the full one", Sample.FULL.game().isWhole(), true);
        for (int s = 0; s < 7; s++) {
            String[] texts = Sample.FULL.states.clone();
            texts[s] = texts[s].substring(0, texts[s].lastIndexOf('>') + 1);
            Check.due("full but for the weights of " + s, Games.of(texts).isWhole(), false);
            texts[s] = "a0";
            Check.due("full but for the choices of " + s, Games.of(texts).isWhole(), false);
        }
    }

    private static void aims() {
        Doc.says(0, "the chance that a target is ever reached, which is 1 from a target itself.");
        Chanceledger left = Games.of("a0* 0,0>1", "b0 0,0>1", "b0* 0,0>1");
        Check.due("a target that is left", Games.value(left, 'r', 0) + Games.byAll(left, 'r', 0), "1/11/1");
        Check.due("its chain", Games.chain(left, 'r', 2) + Games.response(left, 'a', 'r', 2), "1/11/1");
        Check.due("a state that is none", Games.value(left, 'r', 1) + Games.chain(left, 'r', 1), "0/10/1");
    }

    private static void costAims() {
        Doc.says(0, "times the discount to the power of the number of steps before it; the cost is the first one for 'f'");
        Chanceledger steps = Games.of("a0 9,1>1", "a0 3,2>2", "a0 0,0>2");
        steps.setDiscount(1, 3);
        steps.setWeights(3, 2);
        Check.due("the first step is whole", Games.value(steps, 'f', 0), "10/1");
        Check.due("the second costs", Games.value(steps, 's', 0), "5/3");
        Check.due("both costs", Games.value(steps, 'w', 0), "100/3");
        Check.due("no cost", Games.value(steps, 'f', 2), "0/1");
    }

    private static void longRunAims() {
        Doc.says(0, "for 'm', a chain gets the expected mean of the first costs over ever more steps; for 'p', the chance "
                + "that the least one of the colours of those states in which the chain is again and again without end is "
                + "even.");
        Chanceledger steps = Games.of("a0 9,1>1", "a0 3,2>2", "a0 0,0>2");
        Check.due("the last cost alone is again and again", Games.chain(steps, 'm', 0), "0/1");
        Check.due("the mean of one state", Games.chain(Games.of("a0 9,0>0"), 'm', 0), "9/1");
        Chanceledger colours = Games.of("a0 0,0>1", "a1 0,0>2", "a2 0,0>1", "a3 0,0>223", "a2 0,0>5", "a3 0,0>4");
        String due = "0/1 0/1 0/1 0/1 1/1 1/1";
        StringBuilder got = new StringBuilder(Games.chain(colours, 'p', 0));
        for (int s = 1; s < 6; s++) {
            got.append(" ").append(Games.chain(colours, 'p', s));
        }
        Check.due("least colours", got.toString(), due);
    }

    private static void valuesAreHeld() {
        Doc.says(0, "The value of a state for an aim is the greatest number such that there is a strategy of 'a' by which "
                + "the chain gets from the state at least this number with each strategy of 'b'.");
        Chanceledger alone = Games.of("a0 1,9>0 9,1>0 5,5>0", "b0 1,9>1 9,1>1 5,5>1");
        Check.due("'a' alone", Games.value(alone, 'f', 0) + " " + Games.value(alone, 's', 0), "18/1 18/1");
        Check.due("'b' alone", Games.value(alone, 'f', 1) + " " + Games.value(alone, 's', 1), "2/1 2/1");
        Doc.says(0, "(There is a strategy of 'b', too, by which it gets at most this with each strategy of 'a'.)");
        for (Sample base : new Sample[] {Sample.ONE, Sample.FOUR, Sample.FULL}) {
            for (char aim : "rfsw".toCharArray()) {
                heldByBoth(base, aim);
            }
        }
    }

    /** What a side is told holds the value against every answer of the other one. */
    private static void heldByBoth(Sample base, char aim) {
        Chanceledger game = base.game();
        game.solve(aim);
        for (int s = 0; s < base.states.length; s++) {
            String value = Games.value(game, aim, s);
            Check.due("'a' holds " + base + aim + s, Games.response(game, 'a', aim, s), value);
            Check.due("'b' holds " + base + aim + s, Games.response(game, 'b', aim, s), value);
        }
    }

    private static void fractions() {
        Doc.says(0, "Fractions are told in lowest terms, above and below, the latter greater than 0; the number 0 is 0 of "
                + "1.");
        Chanceledger game = Games.of("a0 0,0>001122", "a0* 0,0>1", "a0 0,0>2", "a0 0,0>111112", "b0 0,0>4");
        Check.due("lowest terms", Games.value(game, 'r', 0) + " " + Games.byAll(game, 'r', 0), "1/2 1/2");
        Check.due("five of six", Games.value(game, 'r', 3) + " " + Games.byAll(game, 'r', 3), "5/6 5/6");
        Check.due("0 is 0 of 1", Games.value(game, 'r', 2) + " " + Games.byAll(game, 'r', 2), "0/1 0/1");
        Check.due("no cost is 0 of 1", Games.value(game, 'w', 0) + " " + Games.byAll(game, 'w', 0), "0/1 0/1");
        Check.due("1 is 1 of 1", Games.value(game, 'r', 1) + " " + Games.byAll(game, 'r', 1), "1/1 1/1");
        Check.due("0 in a chain", Games.chain(game, 'r', 4) + Games.chain(game, 'm', 4), "0/10/1");
        Check.due("0 in a response", Games.response(game, 'a', 'f', 4) + Games.response(game, 'b', 'r', 2), "0/10/1");
        Check.due("a trace", Games.trace(game, 0), "01 1/3");
    }

    private static void lowestGood() {
        Doc.says(0, "The told choice becomes the lowest good one.");
        Chanceledger costs = Games.of("a0 4,4>0 4,4>0 4,4>0", "a0 1,4>1 2,4>1 3,4>1", "b0 3,4>2 2,4>2 1,4>2",
                "b0 3,4>3 1,4>3 1,4>3", "a0 1,4>4 3,4>4 3,4>4");
        Check.due("by the first cost", costs.solve('f') + " " + Games.told(costs), "4 02211");
        Check.due("all are good", costs.solve('s') + " " + Games.told(costs), "4 00000");
        Doc.says(0, "for 'r', a target's choices are all good");
        Chanceledger targets = Games.of("a0* 0,0>2 0,0>0 0,0>1", "b0* 0,0>0 0,0>1 0,0>2", "b0 0,0>2");
        targets.tell(0, 2);
        targets.tell(1, 2);
        Check.due("the lowest one, wherever it leads", targets.solve('r') + " " + Games.told(targets), "2 000");
        Doc.says(0, "But for 'r', in a state of 'a' that is no target, and has a value greater than 0, it becomes the "
                + "lowest good one that has a chance greater than 0 of leading to a state of a lower rank.");
        Chanceledger waits = Games.of("a0 0,0>0 0,0>00000 0,0>000001", "a0* 0,0>1");
        Check.due("a small chance is one", waits.solve('r') + " " + Games.told(waits), "1 20");
        Chanceledger lost = Games.of("a0 0,0>0 0,0>1 0,0>2", "a0 0,0>0 0,0>1", "b0 0,0>2");
        lost.tell(0, 2);
        Check.due("a value of 0: just the lowest good one", lost.solve('r') + " " + Games.told(lost), "1 000");
        Chanceledger others = Games.of("b0 0,0>1 0,0>2", "a0 0,0>2", "a0* 0,0>2");
        others.tell(0, 1);
        Check.due("'b': just the lowest good one", others.solve('r') + " " + Games.told(others), "1 000");
        Chanceledger bad = Games.of("a0 0,0>12 0,0>3", "b0 0,0>1", "a0* 0,0>2", "a0 0,0>2");
        Check.due("not one that is not good, near as it leads", bad.solve('r') + " " + Games.told(bad), "1 1000");
    }

    private static void ranks() {
        Doc.says(0, "Targets have the rank 0.");
        Chanceledger near = Games.of("a0 0,0>1 0,0>2", "a0 0,0>0 0,0>2", "a0* 0,0>0");
        Check.due("straight to the target", near.solve('r') + " " + Games.told(near), "2 110");
        Doc.says(0, "those of 'a' get the round as their rank that have a good choice with a chance greater than 0 of "
                + "leading to a state which had a rank before the round, and those of 'b' of which each good choice has "
                + "such a chance.");
        Chanceledger rounds = Games.of("a0 0,0>3", "a0 0,0>0", "a0 0,0>1 0,0>0", "a0* 0,0>3");
        Check.due("not by a rank of the same round", rounds.solve('r') + " " + Games.told(rounds), "1 0010");
        Chanceledger each = Games.of("b0 0,0>2 0,0>3", "a0 0,0>0 0,0>2", "a0 0,0>3", "a0* 0,0>3");
        Check.due("'b' of two ways gets the later rank", each.solve('r') + " " + Games.told(each), "1 0100");
        Chanceledger one = Games.of("b0 0,0>4 0,0>3", "a0 0,0>0 0,0>2", "a0 0,0>0", "a0* 0,0>3", "b0 0,0>4444");
        Check.due("'b' of a value of 0 has none", Games.value(one, 'r', 0) + one.solve('r') + " " + Games.told(one), "0/10 00000");
        Chanceledger good = Games.of("b0 0,0>34 0,0>5", "a0 0,0>6 0,0>0", "a0 0,0>3", "a0* 0,0>3", "b0 0,0>4",
                "a0 0,0>2", "a0 0,0>24");
        Check.due("good ones of 'b' alone count", Games.value(good, 'r', 1), "1/2");
        Check.due("so 'b' is nearer than another", good.solve('r') + " " + Games.told(good), "1 0100000");
        Chanceledger line = Games.of("a0 0,0>0 0,0>1", "a0 0,0>0 0,0>2", "a0 0,0>1 0,0>3", "a0 0,0>2 0,0>4",
                "a0 0,0>3 0,0>5", "a0 0,0>4 0,0>6", "a0* 0,0>5");
        Check.due("as many rounds as there can be", line.solve('r') + " " + Games.told(line), "6 1111110");
    }

    private static void classesOfLikeStates() {
        Doc.says(0, "States are put into classes, of which there are as few as possible: states of a class belong to the "
                + "same player, have the same colour, and are all targets or all none");
        classesDue("player", "01", "a0 0,0>0", "b0 0,0>1");
        classesDue("colour", "01", "a0 0,0>0", "a1 0,0>1");
        classesDue("target", "01", "a0 0,0>0", "a0* 0,0>1");
        classesDue("all none", "00", "b3 9,0>0", "b3 9,0>1");
        classesDue("all targets", "00", "b3* 9,0>0", "b3* 9,0>1");
        classesDue("a ring that could be split", "0000000", "a0 1,1>1", "a0 1,1>2", "a0 1,1>3", "a0 1,1>4", "a0 1,1>5",
                "a0 1,1>6", "a0 1,1>0");
        Doc.says(0, "for each choice of a state and each other state of its class, the other one has a choice with the "
                + "same costs and the same chance to come into each class.");
        classesDue("first costs", "01", "a0 8,0>0", "a0 9,0>1");
        classesDue("second costs", "01", "a0 0,1>0", "a0 0,0>1");
        classesDue("one more choice", "01", "a0 0,0>0", "a0 0,0>1 1,0>1");
        classesDue("the same choice twice", "000", "a0 0,0>0 1,0>0", "a0 0,0>1 1,0>1 0,0>1", "a0 1,0>2 1,0>0 0,0>1");
        classesDue("chances of one of six and of one of five", "0123", "a0 0,0>222223", "a0 0,0>22223", "b0 0,0>2", "b1 0,0>3");
        classesDue("two of six and one of three", "0023", "a0 0,0>222233", "a0 0,0>223", "b0 0,0>2", "b1 0,0>3");
        classesDue("split by the last of all", "0123456", "a0 0,0>1", "a0 0,0>2", "a0 0,0>3", "a0 0,0>4", "a0 0,0>5",
                "a0 0,0>6", "a0* 0,0>6");
    }

    private static void classesDue(String what, String due, String... states) {
        Chanceledger game = Games.of(states);
        StringBuilder got = new StringBuilder();
        for (int s = 0; s < states.length; s++) {
            got.append(game.classOf(s));
        }
        Check.due(what, got + " " + game.classes(), due + " " + due.chars().distinct().count());
    }

    private static void components() {
        Doc.says(0, "each state of the set can be reached from each one of it by one or more steps.");
        Chanceledger game = Games.of("a0 0,0>1", "a0 0,0>1", "b0 0,0>023 0,0>34", "b0 0,0>2", "a0 0,0>3 0,0>14");
        Check.thrown("alone, and not by a step", Edge.NONE, () -> game.endOf(0));
        Check.due("alone, by a step to itself", game.endOf(1), 1);
        Check.due("by choices that stay", game.endOf(2) + " " + game.endOf(3) + " " + game.endOf(4), "2 2 2");
        Doc.says(0, "The greatest end component of a state is the union of all that have it.");
        Chanceledger union = Games.of("a0 0,0>0 0,0>1", "a0 0,0>0 0,0>2", "b0 0,0>2 0,0>1", "b0 0,0>3 0,0>2");
        Check.due("of two that share a state", union.endOf(0) + " " + union.endOf(1) + " " + union.endOf(2), "0 0 0");
        Check.due("not of one that leads there alone", union.endOf(3), 3);
        Doc.says(0, "a set of states is closed if no other state can be reached from it, and each of its states can be "
                + "reached from each one of it by one or more steps.");
        Chanceledger chain = Games.of("a0 0,0>1", "a0 0,0>012", "b0 0,0>3", "b0 0,0>2", "a0 0,0>4", "a0 0,0>555554");
        Check.thrown("another can be reached", Edge.NONE, () -> chain.closedOf(0));
        Check.thrown("another can be reached at once", Edge.NONE, () -> chain.closedOf(1));
        Check.due("a ring", chain.closedOf(2) + " " + chain.closedOf(3), "2 2");
        Check.due("alone", chain.closedOf(4), 4);
        Check.thrown("a small chance of leaving", Edge.NONE, () -> chain.closedOf(5));
    }

    private static void traces() {
        Doc.says(0, "is a row of different states, each of which has a chance greater than 0 to come next behind the one "
                + "before it, whose last state is a target, and no other one.");
        Chanceledger game = Games.of("a0 0,0>000001", "a0* 0,0>2", "b0* 0,0>0", "a0 0,0>3", "a0 0,0>3");
        Check.due("no state twice", Games.trace(game, 0), "01 1/6");
        Check.due("a target is the end", Games.trace(game, 1), "1 1/1");
        Check.thrown("no target ahead", Edge.NONE, () -> game.traceLength(3));
        Check.thrown("no target ahead of another", Edge.NONE, () -> game.traceLength(4));
        Doc.says(0, "Its weight is the product of these chances, 1 for a single state.");
        Check.due("a single state", game.traceAbove(2) + "/" + game.traceBelow(2), "1/1");
        Chanceledger line = Games.of("a0 0,0>000001", "a0 0,0>000002", "a0 0,0>000003", "a0 0,0>000004",
                "a0 0,0>000005", "a0 0,0>000006", "a0* 0,0>0");
        Check.due("six chances of one sixth", Games.trace(line, 0), "0123456 1/46656");
        Doc.says(0, "the one with the greatest weight of those that begin with the state; of several, the one with the "
                + "fewest states; of several, the one whose states have the lowest numbers, compared from the first one on.");
        Chanceledger weight = Games.of("a0 0,0>11113", "a0 0,0>2", "a0 0,0>3", "a0* 0,0>3");
        Check.due("a greater weight, with more states", Games.trace(weight, 0), "0123 4/5");
        Chanceledger fewest = Games.of("a0 0,0>12", "a0 0,0>3", "a0* 0,0>2", "a0* 0,0>2");
        Check.due("as great, with fewer states", Games.trace(fewest, 0), "02 1/2");
        Chanceledger behind = Games.of("a0 0,0>2", "a0* 0,0>1", "a0* 0,0>2", "a0 0,0>01");
        Check.due("as great, with fewer states by a higher number", Games.trace(behind, 3), "31 1/2");
        Chanceledger ahead = Games.of("a0* 0,0>0", "a0 0,0>2", "a0* 0,0>2", "a0 0,0>01");
        Check.due("as great, with fewer states by a lower number", Games.trace(ahead, 3), "30 1/2");
        Chanceledger lowest = Games.of("a0 0,0>12", "a0 0,0>4", "a0 0,0>3", "a0* 0,0>2", "a0* 0,0>2");
        Check.due("as many, with lower numbers from the first on", Games.trace(lowest, 0), "014 1/2");
        Chanceledger ends = Games.of("a0 0,0>21", "a0* 0,0>0", "a0* 0,0>0");
        Check.due("the lower of two targets", Games.trace(ends, 0), "01 1/2");
    }
}
