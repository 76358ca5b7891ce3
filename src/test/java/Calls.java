import java.util.List;

/** Calls of the face, for what is promised of many of them in the same words. */
final class Calls {
    private Calls() {
    }

    /** A call that takes a state; its other arguments are such as are allowed wherever they can be. */
    record OnState(int promise, String name, Edge.ActAt act) {
    }

    interface ActFor {
        Object on(Chanceledger game, char aim, int state);
    }

    /** A call that takes an aim and a state. */
    record ForAim(int promise, String name, String aims, ActFor act) {
    }

    static final List<ForAim> FOR_AIMS = List.of(
            new ForAim(12, "above", "rfsw", Chanceledger::above),
            new ForAim(13, "below", "rfsw", Chanceledger::below),
            new ForAim(14, "aboveByAll", "rfsw", Chanceledger::aboveByAll),
            new ForAim(15, "belowByAll", "rfsw", Chanceledger::belowByAll),
            new ForAim(16, "valueFloat", "rfsw", Chanceledger::valueFloat),
            new ForAim(17, "restFloat", "rfsw", Chanceledger::restFloat),
            new ForAim(18, "rounded", "rfsw", Chanceledger::rounded),
            new ForAim(25, "chainAbove", "rfswmp", Chanceledger::chainAbove),
            new ForAim(26, "chainBelow", "rfswmp", Chanceledger::chainBelow),
            new ForAim(27, "responseAbove 'a'", "rfsw", (g, aim, s) -> g.responseAbove('a', aim, s)),
            new ForAim(27, "responseAbove 'b'", "rfsw", (g, aim, s) -> g.responseAbove('b', aim, s)),
            new ForAim(28, "responseBelow 'a'", "rfsw", (g, aim, s) -> g.responseBelow('a', aim, s)),
            new ForAim(28, "responseBelow 'b'", "rfsw", (g, aim, s) -> g.responseBelow('b', aim, s)));

    /** Those that take a whole game, but for the ones above. */
    static final List<OnState> ON_WHOLE = List.of(
            new OnState(19, "bound", (g, s) -> g.bound(s, 0)),
            new OnState(20, "isZero", Chanceledger::isZero),
            new OnState(21, "isOne", Chanceledger::isOne),
            new OnState(29, "closedOf", Chanceledger::closedOf),
            new OnState(30, "endOf", Chanceledger::endOf),
            new OnState(31, "classOf", Chanceledger::classOf),
            new OnState(33, "traceLength", Chanceledger::traceLength),
            new OnState(34, "traceAt", (g, s) -> g.traceAt(s, 0)),
            new OnState(35, "traceAbove", Chanceledger::traceAbove),
            new OnState(36, "traceBelow", Chanceledger::traceBelow));

    /** Those that take a game that need not be whole. */
    static final List<OnState> ON_ANY = List.of(
            new OnState(3, "addChoice", (g, s) -> g.addChoice(s, 0, 0)),
            new OnState(4, "addWeight", (g, s) -> g.addWeight(s, 0, 0, 1)),
            new OnState(4, "addWeight to", (g, s) -> g.addWeight(0, 0, s, 1)),
            new OnState(5, "setTarget", (g, s) -> g.setTarget(s, true)),
            new OnState(9, "choices", Chanceledger::choices),
            new OnState(10, "chance", (g, s) -> g.chance(s, 0, 0)),
            new OnState(10, "chance to", (g, s) -> g.chance(0, 0, s)),
            new OnState(23, "tell", (g, s) -> g.tell(s, 0)),
            new OnState(24, "told", Chanceledger::told));
}
