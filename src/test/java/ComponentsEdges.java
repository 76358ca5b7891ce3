/** The boundary cases of promises 29 to 38. */
final class ComponentsEdges {
    private static final String[] RING = {"a0 1,0>1", "b0 2,0>2", "a0 3,0>3", "b0 4,0>4", "a0 5,0>5", "b0 6,0>6",
        "a0 7,0>0"};
    private static final String[] APART = {"a0 1,0>0", "b0 2,0>1", "a0 3,0>2", "b0 4,0>3", "a0 5,0>4", "b0 6,0>5",
        "a0 7,0>6"};
    /** Each state leads to the next one, the last one to itself. */
    private static final String[] LINE = {"a0 0,0>000001", "a0 0,0>000002", "a0 0,0>000003", "a0 0,0>000004",
        "a0 0,0>000005", "a0 0,0>000006", "a0* 0,0>6"};

    private ComponentsEdges() {
    }

    static void run() {
        for (Calls.OnState call : Calls.ON_WHOLE) {
            if (call.promise() >= 29) {
                GameEdges.noSuchState(call);
                ValuesEdges.notWhole(call);
            }
        }
        closedOf();
        endOf();
        classOf();
        classes();
        traceLength();
        traceAt();
        traceWeight();
        meanChoices();
        isConsistent();
        full();
    }

    private static void closedOf() {
        Doc.says(29, "Returns the lowest state.");
        for (int s = 0; s < 7; s++) {
            Check.due("of all seven", Games.of(RING).closedOf(s), 0);
            Check.due("of one", Games.of(APART).closedOf(s), s);
        }
        Check.due("of the last two", Games.of("a0 0,0>2", "b0 0,0>2", "a0 0,0>1").closedOf(2), 1);
        Check.due("of the least game", Sample.ONE.game().closedOf(0), 0);
        Doc.says(29, "Throws `NoSuchElementException` if it belongs to none");
        for (int s = 0; s < 6; s++) {
            int state = s;
            Check.thrown("of the line's " + s, Edge.NONE, () -> Games.of(LINE).closedOf(state));
        }
        Check.due("of the line's end", Games.of(LINE).closedOf(6), 6);
        Edge.refused("of a state that is left", Edge.NONE, Sample.FOUR, g -> g.closedOf(1));
        Edge.refused("of another one", Edge.NONE, Sample.FOUR, g -> g.closedOf(0));
        Chanceledger told = Games.of("a0 0,0>0 0,0>01", "a0 0,0>1");
        Check.due("by the told choice", told.closedOf(0), 0);
        told.tell(0, 1);
        Check.thrown("by the other one", Edge.NONE, () -> told.closedOf(0));
    }

    private static void endOf() {
        Doc.says(30, "Returns the lowest state.");
        for (int s = 0; s < 7; s++) {
            Check.due("of all seven", Games.of(RING).endOf(s), 0);
            Check.due("of one", Games.of(APART).endOf(s), s);
        }
        Check.due("of the last two", Games.of("a0 0,0>2", "b0 0,0>2", "a0 0,0>1").endOf(2), 1);
        Check.due("of the least game", Sample.ONE.game().endOf(0), 0);
        Chanceledger third = Games.of("a0 0,0>1 0,0>1 0,0>2", "a0 0,0>1", "b0 0,0>2 0,0>2 0,0>0");
        Check.due("by third choices", third.endOf(0) + " " + third.endOf(2), "0 0");
        Doc.says(30, "Throws `NoSuchElementException` if it belongs to none");
        for (int s = 0; s < 6; s++) {
            int state = s;
            Check.thrown("of the line's " + s, Edge.NONE, () -> Games.of(LINE).endOf(state));
        }
        Check.due("of the line's end", Games.of(LINE).endOf(6), 6);
        Edge.refused("of a state that chance leaves", Edge.NONE, Sample.FOUR, g -> g.endOf(0));
        Edge.refused("of a state that is left at once", Edge.NONE, Sample.FOUR, g -> g.endOf(1));
    }

    private static void classOf() {
        Doc.says(31, "Returns the lowest state.");
        for (int s = 0; s < 7; s++) {
            Check.due("each for itself", Games.of(RING).classOf(s), s);
            Check.due("all alike, two players", Games.of("a0 0,0>1", "b0 0,0>2", "a0 0,0>3", "b0 0,0>4", "a0 0,0>5",
                    "b0 0,0>0", "a0 0,0>1").classOf(s), s % 2);
        }
        Check.due("the last two", Games.of("a0 0,0>0", "b3* 9,9>1", "b3* 9,9>2").classOf(2), 1);
        Check.due("of the least game", Sample.ONE.game().classOf(0), 0);
    }

    private static void classes() {
        Doc.says(32, "Returns the number of classes.");
        Check.due("seven", Games.of(RING).classes(), 7);
        Check.due("one of seven", Games.of("b3 9,9>0", "b3 9,9>1", "b3 9,9>2", "b3 9,9>3", "b3 9,9>4", "b3 9,9>5",
                "b3 9,9>6").classes(), 1);
        Check.due("one of one", Sample.ONE.game().classes(), 1);
        Doc.says(32, "Throws `IllegalStateException` if the game is not whole");
        for (Sample base : new Sample[] {Sample.EMPTY, Sample.BARE, Sample.PART}) {
            Edge.refused("classes", Edge.STATE, base, Chanceledger::classes);
        }
    }

    private static void traceLength() {
        Doc.says(33, "Returns the number of states.");
        for (int s = 0; s < 7; s++) {
            Check.due("the line from " + s, Games.of(LINE).traceLength(s), 7 - s);
        }
        Check.due("the least one", Games.of("b1* 5,3>0").traceLength(0), 1);
        noTrace(33, Chanceledger::traceLength);
    }

    private static void noTrace(int promise, Edge.ActAt act) {
        Doc.says(promise, "Throws `NoSuchElementException` if there is no trace");
        Edge.refused("no targets", Edge.NONE, Sample.ONE, g -> act.on(g, 0));
        Edge.refused("no target ahead", Edge.NONE, Sample.FOUR, g -> act.on(g, 3));
        Chanceledger told = Games.of("a0 0,0>0 0,0>000001", "a0* 0,0>1");
        Check.thrown("not by the told choice", Edge.NONE, () -> act.on(told, 0));
        told.tell(0, 1);
        Check.due("by the other one", Games.trace(told, 0), "01 1/6");
        told.setTarget(1, false);
        Check.thrown("no target any more", Edge.NONE, () -> act.on(told, 0));
        Check.thrown("nor there", Edge.NONE, () -> act.on(told, 1));
    }

    private static void traceAt() {
        Doc.says(34, "- `index`: the index, from 0");
        for (int s = 0; s < 7; s++) {
            Check.due("first of the line from " + s, Games.of(LINE).traceAt(s, 0), s);
            Check.due("last of the line from " + s, Games.of(LINE).traceAt(s, 6 - s), 6);
        }
        Doc.says(34, "Returns the state.");
        Chanceledger back = Games.of("a0* 0,0>1", "a0 0,0>0", "a0 0,0>1");
        Check.due("downwards", "" + back.traceAt(2, 0) + back.traceAt(2, 1) + back.traceAt(2, 2), "210");
        noTrace(34, (g, s) -> g.traceAt(s, 0));
        Doc.says(34, "Throws `NoSuchElementException` if there is no trace, or it has no such state");
        Edge.refusedBeyond("index of three", Edge.NONE, 0, 2, Sample.FOUR, (g, wrong) -> g.traceAt(1, wrong));
        Edge.refusedBeyond("index of two", Edge.NONE, 0, 1, Sample.FOUR, (g, wrong) -> g.traceAt(0, wrong));
        Edge.refusedBeyond("index of one", Edge.NONE, 0, 0, Sample.FULL, (g, wrong) -> g.traceAt(6, wrong));
        Edge.refusedBeyond("index of none", Edge.NONE, 0, -1, Sample.FOUR, (g, wrong) -> g.traceAt(3, wrong));
        for (int s = 0; s < 7; s++) {
            for (int wrong : Edge.beyond(0, 6 - s)) {
                int state = s;
                Check.thrown("index " + wrong + " from " + s, Edge.NONE, () -> Games.of(LINE).traceAt(state, wrong));
            }
        }
    }

    private static void traceWeight() {
        Doc.says(35, "Returns what is above.");
        Check.due("of a target", Games.of(LINE).traceAbove(6), 1L);
        Chanceledger sure = Games.of("a0 0,0>1", "a0 0,0>111112", "b0* 0,0>0");
        sure.setTarget(1, true);
        Check.due("of a sure step", Games.trace(sure, 0), "01 1/1");
        Chanceledger most = Games.of("a0 0,0>111110", "a0 0,0>222221", "a0 0,0>333332", "a0 0,0>444443", "a0 0,0>555554",
                "a0 0,0>666665", "a0* 0,0>6");
        Check.due("five of six, six times", Games.trace(most, 0), "0123456 15625/46656");
        Doc.says(36, "Returns what is below.");
        Check.due("of a target", Games.of(LINE).traceBelow(6), 1L);
        long due = 1;
        for (int s = 6; s >= 0; s--) {
            Check.due("the line from " + s, Games.of(LINE).traceBelow(s), due);
            due *= 6;
        }
        Chanceledger lowest = Games.of("a0 0,0>112", "a0 0,0>3322", "b0 0,0>2", "b0* 0,0>3");
        Check.due("2 of 3 and 2 of 4 in lowest terms", Games.trace(lowest, 0), "013 1/3");
        noTrace(35, Chanceledger::traceAbove);
        noTrace(36, Chanceledger::traceBelow);
    }

    private static void meanChoices() {
        Doc.says(37, "Returns the mean.");
        Check.due("the greatest", Sample.FULL.game().meanChoices(), 3.0);
        Check.due("the least", Games.of("a0", "a0", "a0", "a0", "a0", "a0", "a0").meanChoices(), 0.0);
        Check.due("one of seven", Games.of("a0", "a0", "a0", "a0", "a0", "a0", "a0 0,0>").meanChoices(), 1.0 / 7.0);
        Check.due("all but one", Games.of("a0 0,0> 0,0> 0,0>", "b0 0,0> 0,0>", "a0 0,0> 0,0> 0,0>").meanChoices(), 8.0 / 3.0);
        Check.due("of one", Games.of("a0").meanChoices() + Sample.ONE.game().meanChoices(), 1.0);
        Doc.says(37, "Throws `ArithmeticException` if there are no states");
        Edge.refused("no states", Edge.ARITHMETIC, Sample.EMPTY, Chanceledger::meanChoices);
    }

    private static void isConsistent() {
        Doc.says(38, "Returns true if the invariants hold, or the game is not whole.");
        for (Sample base : Sample.values()) {
            Check.due("of " + base, base.game().isConsistent(), true);
            for (int part = 0; part < Picture.PARTS; part++) {
                Chanceledger game = base.game();
                game.isConsistent();
                Check.due("changes nothing of " + base, Picture.of(game, part), Picture.of(base.game(), part));
            }
        }
        for (String[] states : new String[][] {RING, APART, LINE}) {
            Chanceledger game = Games.of(states);
            for (int s = 0; s < 7; s++) {
                Check.due("with more targets", game.isConsistent(), true);
                game.setTarget(s, true);
            }
            Check.due("with all targets", game.isConsistent(), true);
            game.setWeights(0, 0);
            Check.due("with no weights", game.isConsistent(), true);
        }
    }

    /** The full game by the oracle, which tries all sets, partitions and traces. */
    private static void full() {
        Doc.says(30, "Returns the lowest state of the greatest end component of a state.");
        Oracle oracle = Sample.FULL.oracle();
        Chanceledger game = Sample.FULL.game();
        for (int i = 0; i < 7; i++) {
            int s = i;
            Check.due("end of " + s, Picture.answer(() -> game.endOf(s)), orNone(oracle.endOf(s)));
        }
        Doc.says(29, "Returns the lowest state of the closed set, of the chain of the told strategies, to which a state "
                + "belongs.");
        for (int i = 0; i < 7; i++) {
            int s = i;
            int due = Oracle.lowest(oracle.closedSet(oracle.told, s));
            Check.due("closed of " + s, Picture.answer(() -> game.closedOf(s)), orNone(due));
        }
        Doc.says(31, "Returns the lowest state of the class of a state.");
        int[] classes = oracle.classes();
        for (int s = 0; s < 7; s++) {
            Check.due("class of " + s, game.classOf(s), classes[s]);
        }
        Doc.says(33, "Returns the number of states of the weightiest trace from a state.");
        for (int i = 0; i < 7; i++) {
            int s = i;
            Oracle.Trace trace = oracle.trace(s);
            StringBuilder due = new StringBuilder();
            for (int state : trace.states) {
                due.append(state);
            }
            String want = trace.states.isEmpty() ? "NoSuchElementException" : due + " " + trace.weight;
            Check.due("trace of " + s, Picture.answer(() -> Games.trace(game, s)), want);
        }
    }

    private static String orNone(int state) {
        return state < 0 ? "NoSuchElementException" : String.valueOf(state);
    }
}
