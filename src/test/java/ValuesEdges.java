/** The boundary cases of promises 12 to 21. */
final class ValuesEdges {
    /** Each step has one chance of six; s5 is the target, s6 is lost. */
    private static final String[] HARDLY = {"a0 0,0>166666", "b0 0,0>266666", "a0 0,0>366666", "b0 0,0>466666",
        "a0 0,0>566666", "b0* 0,0>5", "a0 0,0>6"};
    /** The other way round: one chance of six at each step not to be at the target yet. */
    private static final String[] NEARLY = {"a0 0,0>155555", "b0 0,0>255555", "a0 0,0>355555", "b0 0,0>455555",
        "a0 0,0>655555", "b0* 0,0>5", "a0 0,0>6"};
    /** A half, and as little more as there can be. */
    private static final String[] OVER_HALF = {"a0 0,0>155566", "b0 0,0>266666", "a0 0,0>366666", "b0 0,0>466666",
        "a0 0,0>566666", "b0* 0,0>5", "a0 0,0>6"};
    /** A half, and as little less. */
    private static final String[] UNDER_HALF = {"a0 0,0>155666", "b0 0,0>255555", "a0 0,0>355555", "b0 0,0>455555",
        "a0 0,0>655555", "b0* 0,0>5", "a0 0,0>6"};

    private ValuesEdges() {
    }

    static void run() {
        for (Calls.ForAim call : Calls.FOR_AIMS) {
            if (call.promise() <= 18) {
                Doc.says(call.promise(), "- `aim`: the aim, 'r', 'f', 's' or 'w'");
                allowedAims(call);
                refusals(call);
            }
        }
        for (Calls.OnState call : Calls.ON_WHOLE) {
            if (call.promise() <= 21) {
                GameEdges.noSuchState(call);
                notWhole(call);
            }
        }
        above();
        below();
        valueFloat();
        restFloat();
        rounded();
        boundRounds();
        boundByRounds();
        boundAtFirst();
        isZero();
        isOne();
        byTheGraph();
    }

    private static void allowedAims(Calls.ForAim call) {
        for (Sample base : new Sample[] {Sample.ONE, Sample.FOUR, Sample.FULL}) {
            for (char aim : call.aims().toCharArray()) {
                String got = Picture.answer(() -> call.act().on(base.game(), aim, base.states.length - 1));
                Check.due(call.name() + " " + aim, got.endsWith("Exception"), false);
            }
        }
    }

    /** What every call with an aim and a state refuses. */
    static void refusals(Calls.ForAim call) {
        for (Sample base : Sample.values()) {
            int last = base.states.length - 1;
            Doc.says(call.promise(), "Throws `IllegalArgumentException` if there is no such");
            for (char wrong : Edge.beside(call.aims())) {
                Edge.refused(call.name() + " aim " + (int) wrong, Edge.ARGUMENT, base, g -> call.act().on(g, wrong, 0));
            }
            Doc.says(call.promise(), "Throws `IndexOutOfBoundsException` if there is no such state");
            for (char aim : call.aims().toCharArray()) {
                Edge.refusedBeyond(call.name() + aim, Edge.INDEX, 0, last, base, (g, s) -> call.act().on(g, aim, s));
            }
            if (base.isWhole()) {
                Doc.says(call.promise(), "- `state`: the state");
                for (int state : new int[] {0, last}) {
                    String got = Picture.answer(() -> call.act().on(base.game(), 'r', state));
                    Check.due(call.name() + " state " + state, got.endsWith("Exception"), false);
                }
            } else if (last >= 0) {
                Doc.says(call.promise(), "Throws `IllegalStateException` if the game is not whole");
                for (char aim : call.aims().toCharArray()) {
                    Edge.refused(call.name() + aim, Edge.STATE, base, g -> call.act().on(g, aim, 0));
                    Edge.refused(call.name() + aim, Edge.STATE, base, g -> call.act().on(g, aim, last));
                }
            }
        }
    }

    static void notWhole(Calls.OnState call) {
        Doc.says(call.promise(), "Throws `IllegalStateException` if the game is not whole");
        for (Sample base : new Sample[] {Sample.BARE, Sample.PART}) {
            for (int s = 0; s < base.states.length; s++) {
                int state = s;
                Edge.refused(call.name(), Edge.STATE, base, g -> call.act().on(g, state));
            }
        }
    }

    /** By all strategies first: what the other way left solved would be the right values. */
    private static void due(String what, Chanceledger game, char aim, int state, String want) {
        Check.due(what + " by all", Games.byAll(game, aim, state), want);
        Check.due(what, Games.value(game, aim, state), want);
    }

    private static void above() {
        String[] greatest = {"b0 9,9>0"};
        Chanceledger most = Games.of(greatest);
        most.setDiscount(2, 3);
        most.setWeights(3, 3);
        for (int promise : new int[] {12, 14}) {
            Doc.says(promise, "Returns what is above.");
            due("the greatest of all", most, 'w', 0, "162/1");
            due("the least", Games.of(greatest), 'r', 0, "0/1");
            due("no costs", Games.of("a0 0,0>0"), 'w', 0, "0/1");
            due("a target alone", Games.of("a3* 0,0>0"), 'r', 0, "1/1");
        }
        Chanceledger all = Games.of("a0* 0,0>1", "b0* 0,0>2", "a0* 0,0>3", "b0* 0,0>4", "a0* 0,0>5", "b0* 0,0>6",
                "a0* 0,0>0");
        for (int s = 0; s < 7; s++) {
            due("all are targets", all, 'r', s, "1/1");
            all.setTarget(s, false);
        }
        for (int s = 0; s < 7; s++) {
            due("none is one", all, 'r', s, "0/1");
        }
    }

    private static void below() {
        for (int promise : new int[] {13, 15}) {
            Doc.says(promise, "Returns what is below.");
            due("the least chance of a line", Games.of(HARDLY), 'r', 0, "1/7776");
            due("the greatest that is not sure", Games.of(NEARLY), 'r', 0, "7775/7776");
            due("sure", Games.of(NEARLY), 'r', 5, "1/1");
            due("lost", Games.of(HARDLY), 'r', 6, "0/1");
        }
        Chanceledger mixed = Games.of("a0 1,2>000001", "b0 3,4>111110");
        due("mixed f", mixed, 'f', 0, "5/2");
        due("mixed s", mixed, 's', 1, "15/2");
        mixed.setDiscount(2, 3);
        due("mixed f at 2 of 3", mixed, 'f', 0, "21/5");
        mixed.setDiscount(1, 3);
        due("mixed f at 1 of 3", mixed, 'f', 1, "30/7");
    }

    private static void valueFloat() {
        Doc.says(16, "Returns the value of a state as a float: what is above, converted to float, divided by what is "
                + "below, converted to float.");
        Chanceledger game = fine();
        int others = 0;
        for (int s = 0; s < 7; s++) {
            long up = game.above('w', s);
            long down = game.below('w', s);
            Check.due("fine value " + s, game.valueFloat('w', s), (float) up / (float) down);
            Check.due("fine rest " + s, game.restFloat('w', s), (float) up / (float) down % 0.75f);
            others += (float) up / (float) down != (float) ((double) up / (double) down) ? 1 : 0;
        }
        Check.due("where it counts that both are converted", others > 0, true);
        Doc.says(16, "Returns the value.");
        Check.due("0", Games.of(HARDLY).valueFloat('r', 6), 0f);
        Check.due("1", Games.of(HARDLY).valueFloat('r', 5), 1f);
        Check.due("just above 0", Games.of(HARDLY).valueFloat('r', 0), 1f / 7776f);
        Check.due("just below 1", Games.of(NEARLY).valueFloat('r', 0), 7775f / 7776f);
        Chanceledger most = Games.of("b0 9,9>0");
        most.setDiscount(2, 3);
        most.setWeights(3, 3);
        Check.due("the greatest", most.valueFloat('w', 0), 162f);
        Check.due("the greatest's rest", most.restFloat('w', 0), 0f);
        Check.due("the greatest rounded", most.rounded('w', 0), 162L);
    }

    /** Values with more digits above than a float holds. */
    private static Chanceledger fine() {
        Chanceledger game = Games.of("a0 9,5>02226", "a0 9,7>11234", "a0 9,6>024455", "b0 9,8>12456", "b0 9,5>001336",
                "b0 9,6>14466", "b0 9,2>123445");
        game.setDiscount(2, 3);
        game.setWeights(3, 3);
        return game;
    }

    private static void restFloat() {
        Doc.says(17, "Returns what remains of the value as a float, as told by valueFloat(), when it is divided by 0.75, "
                + "in floats, as Java does with %.");
        Check.due("of less than 0.75", Games.of("a0 0,0>112", "a0* 0,0>1", "a0 0,0>2").restFloat('r', 0), 2f / 3f);
        Check.due("of just 0.75", Games.of("a0 0,0>1112", "a0* 0,0>1", "a0 0,0>2").restFloat('r', 0), 0f);
        Check.due("of more", Games.of("a0 0,0>11112", "a0* 0,0>1", "a0 0,0>2").restFloat('r', 0), 0.8f % 0.75f);
        Check.due("of 5 of 6", Games.of("a0 0,0>111112", "a0* 0,0>1", "a0 0,0>2").restFloat('r', 0), 5f / 6f % 0.75f);
        for (int cost = 0; cost <= 9; cost++) {
            Chanceledger game = Games.of("a0 " + cost + ",0>0", "a0 0," + cost + ">000001");
            game.setDiscount(2, 3);
            game.setWeights(1, 3);
            for (int s = 0; s < 2; s++) {
                float value = (float) game.above('w', s) / (float) game.below('w', s);
                Check.due("of cost " + cost, game.restFloat('w', s), value % 0.75f);
            }
        }
        Doc.says(17, "Returns what remains.");
        Check.due("of 0", Games.of(HARDLY).restFloat('r', 6), 0f);
        Check.due("of 1", Games.of(HARDLY).restFloat('r', 5), 0.25f);
        Check.due("of just above 0", Games.of(HARDLY).restFloat('r', 0), 1f / 7776f);
        Check.due("of just below 1", Games.of(NEARLY).restFloat('r', 0), 7775f / 7776f % 0.75f);
    }

    private static void rounded() {
        Doc.says(18, "of two that are equally near the even one");
        long[] due = {0, 2, 3, 4, 6, 8, 9, 10, 12, 14};
        for (int cost = 0; cost <= 9; cost++) {
            Chanceledger game = Games.of("a0 " + cost + ",0>0");
            game.setDiscount(1, 3);
            Check.due("3 times " + cost + " by 2", game.rounded('f', 0), due[cost]);
        }
        Check.due("a half", Games.of("a0 0,0>12", "a0* 0,0>1", "a0 0,0>2").rounded('r', 0), 0L);
        due("just above a half", Games.of(OVER_HALF), 'r', 0, "3889/7776");
        Check.due("just above a half", Games.of(OVER_HALF).rounded('r', 0), 1L);
        due("just below a half", Games.of(UNDER_HALF), 'r', 0, "3887/7776");
        Check.due("just below a half", Games.of(UNDER_HALF).rounded('r', 0), 0L);
        Doc.says(18, "Returns the whole number.");
        Check.due("0", Games.of(HARDLY).rounded('r', 6), 0L);
        Check.due("1", Games.of(HARDLY).rounded('r', 5), 1L);
        Check.due("just above 0", Games.of(HARDLY).rounded('r', 0), 0L);
        Check.due("just below 1", Games.of(NEARLY).rounded('r', 0), 1L);
        Chanceledger fine = fine();
        for (int s = 0; s < 7; s++) {
            double value = (double) fine.above('w', s) / (double) fine.below('w', s);
            Check.due("fine " + s, fine.rounded('w', s), (long) Math.rint(value));
        }
    }

    private static void boundRounds() {
        Doc.says(19, "- `rounds`: the number of rounds, 0 to 60");
        Chanceledger slow = Games.of("a0 0,0>000001", "a0* 0,0>1");
        double due = 0.0;
        for (int rounds = 0; rounds <= 60; rounds++) {
            Check.due("after " + rounds, slow.bound(0, rounds), due);
            due = (5.0 * due + 1.0) / 6.0;
        }
        Doc.says(19, "Throws `IllegalArgumentException` if the number of rounds is out of range");
        for (Sample base : Sample.values()) {
            if (base != Sample.EMPTY) {
                int last = base.states.length - 1;
                Edge.refusedBeyond("rounds", Edge.ARGUMENT, 0, 60, base, (g, wrong) -> g.bound(0, wrong));
                Edge.refusedBeyond("rounds", Edge.ARGUMENT, 0, 60, base, (g, wrong) -> g.bound(last, wrong));
            }
        }
    }

    private static void boundByRounds() {
        Doc.says(19, "Returns the bound.");
        for (Sample base : new Sample[] {Sample.ONE, Sample.FOUR, Sample.FULL}) {
            Oracle oracle = base.oracle();
            for (int s = 0; s < base.states.length; s++) {
                for (int rounds : new int[] {0, 1, 2, 59, 60}) {
                    Check.due("bound " + base + s, base.game().bound(s, rounds), oracle.bound(s, rounds));
                }
            }
        }
        Doc.says(19, "all at once");
        Chanceledger line = Games.of("a0 0,0>1", "a0 0,0>2", "a0* 0,0>2", "a0 0,0>2", "a0 0,0>3");
        Check.due("one round, one step", line.bound(0, 1) + " " + line.bound(1, 1), "0.0 1.0");
        Check.due("upwards too", line.bound(4, 1) + " " + line.bound(3, 1), "0.0 1.0");
        Check.due("two rounds, two steps", line.bound(0, 2) + " " + line.bound(4, 2), "1.0 1.0");
        Doc.says(19, "for 'a' the greatest one and for 'b' the least one, over its choices");
        Chanceledger both = Games.of("a0 0,0>3 0,0>23 0,0>2", "b0 0,0>2 0,0>23 0,0>2", "a0* 0,0>2", "b0 0,0>3");
        Check.due("the last one, the middle one", both.bound(0, 1) + " " + both.bound(1, 1), "1.0 0.5");
        Doc.says(19, "this whole sum is then divided, once, by the sum of the weights, converted to double.");
        Chanceledger once = Games.of("a0 0,0>00012", "a0* 0,0>1", "b0* 0,0>2");
        Check.due("divided once", once.bound(0, 3), (3.0 * ((3.0 * 0.4 + 1.0 + 1.0) / 5.0) + 1.0 + 1.0) / 5.0);
    }

    private static void boundAtFirst() {
        Doc.says(19, "The bound of a target is 1, and that of another state is 0 at first.");
        Chanceledger game = Games.of("a0 0,0>1", "a0* 0,0>2", "b0 0,0>2", "b0* 0,0>2");
        Check.due("before any round", game.bound(0, 0) + " " + game.bound(1, 0) + " " + game.bound(2, 0) + " "
                + game.bound(3, 0), "0.0 1.0 0.0 1.0");
        Check.due("targets stay", game.bound(1, 1) + " " + game.bound(3, 60), "1.0 1.0");
        Check.due("what never comes to one", game.bound(2, 60), 0.0);
    }

    private static void isZero() {
        Doc.says(20, "Returns true if it is 0.");
        Check.due("just above 0", Games.of(HARDLY).isZero(0), false);
        Check.due("lost", Games.of(HARDLY).isZero(6), true);
        Check.due("a target", Games.of(HARDLY).isZero(5), false);
        Check.due("no targets", Sample.ONE.game().isZero(0), true);
        Check.due("'b' keeps away", Games.of("b0 0,0>1 0,0>1 0,0>0", "b0* 0,0>1").isZero(0), true);
        Check.due("'b' can't quite", Games.of("b0 0,0>1 0,0>1 0,0>000001", "b0* 0,0>1").isZero(0), false);
        Check.due("'a' can, once", Games.of("a0 0,0>0 0,0>0 0,0>000001", "b0* 0,0>1").isZero(0), false);
        for (Sample base : new Sample[] {Sample.FOUR, Sample.FULL}) {
            Fraction[] values = base.oracle().values('r');
            for (int s = 0; s < values.length; s++) {
                Check.due("isZero " + base + s, base.game().isZero(s), values[s].isZero());
            }
        }
    }

    private static void isOne() {
        Doc.says(21, "Returns true if it is 1.");
        Check.due("just below 1", Games.of(NEARLY).isOne(0), false);
        Check.due("a target", Games.of(NEARLY).isOne(5), true);
        Check.due("lost", Games.of(NEARLY).isOne(6), false);
        Check.due("no targets", Sample.ONE.game().isOne(0), false);
        Check.due("'a' can", Games.of("a0 0,0>0 0,0>2 0,0>1", "b0* 0,0>2", "b0 0,0>2").isOne(0), true);
        Check.due("'b' can't but", Games.of("b0 0,0>000001 0,0>1", "b0* 0,0>1").isOne(0), true);
        Check.due("'b' finds the one way out", Games.of("b0 0,0>1 0,0>1 0,0>111112", "b0* 0,0>1", "a0 0,0>2").isOne(0),
                false);
        for (Sample base : new Sample[] {Sample.FOUR, Sample.FULL}) {
            Fraction[] values = base.oracle().values('r');
            for (int s = 0; s < values.length; s++) {
                Check.due("isOne " + base + s, base.game().isOne(s), values[s].equals(Fraction.ONE));
            }
        }
    }

    /** The least chance and the greatest doubt that there can be are seen. */
    private static void byTheGraph() {
        Doc.says(0, "what is 0 or 1 is found by the graph alone");
        for (int s = 0; s < 5; s++) {
            Check.due("hardly, from " + s, Games.of(HARDLY).isZero(s) + " " + Games.of(HARDLY).isOne(s), "false false");
            Check.due("nearly, from " + s, Games.of(NEARLY).isZero(s) + " " + Games.of(NEARLY).isOne(s), "false false");
        }
        for (String[] states : new String[][] {HARDLY, NEARLY}) {
            Check.due("a target", Games.of(states).isZero(5) + " " + Games.of(states).isOne(5), "false true");
            Check.due("lost", Games.of(states).isZero(6) + " " + Games.of(states).isOne(6), "true false");
        }
    }
}
