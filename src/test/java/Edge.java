import java.util.NoSuchElementException;

/** What is tried at an edge, and what must hold behind a call that is refused. */
final class Edge {
    static final Class<IllegalArgumentException> ARGUMENT = IllegalArgumentException.class;
    static final Class<IllegalStateException> STATE = IllegalStateException.class;
    static final Class<IndexOutOfBoundsException> INDEX = IndexOutOfBoundsException.class;
    static final Class<ArithmeticException> ARITHMETIC = ArithmeticException.class;
    static final Class<NoSuchElementException> NONE = NoSuchElementException.class;

    private static final String[][] DUE = new String[Sample.values().length][Picture.PARTS];

    private Edge() {
    }

    interface Act {
        Object on(Chanceledger game);
    }

    interface ActAt {
        Object on(Chanceledger game, int number);
    }

    /** The call throws just this, and every answer behind it is what it would have been without it. */
    static void refused(String what, Class<? extends Exception> kind, Sample base, Act act) {
        String name = what + " (" + base + ")";
        for (int part = 0; part < Picture.PARTS; part++) {
            Chanceledger game = base.game();
            Check.thrown(name, kind, () -> act.on(game));
            Check.due(name + " changed something", Picture.of(game, part), untouched(base, part));
        }
    }

    private static String untouched(Sample base, int part) {
        String[] parts = DUE[base.ordinal()];
        if (parts[part] == null) {
            parts[part] = Picture.of(base.game(), part);
        }
        return parts[part];
    }

    /** Numbers just out of a range on both sides, and such as could wrap round into it. */
    static int[] beyond(int least, int most) {
        return new int[] {least - 1, most + 1, least - 256, most + 256, 1 << 16, 1 << 31, (1 << 31) + least,
            Integer.MAX_VALUE};
    }

    static void refusedBeyond(String what, Class<? extends Exception> kind, int least, int most, Sample base,
            ActAt act) {
        for (int wrong : beyond(least, most)) {
            refused(what + " " + wrong, kind, base, g -> act.on(g, wrong));
        }
    }

    /** Signs that stand beside those that are allowed, look like them, or could wrap round to them. */
    static char[] beside(String allowed) {
        StringBuilder found = new StringBuilder();
        for (char sign : allowed.toCharArray()) {
            for (int wrong : new int[] {sign - 1, sign + 1, sign - 32, sign + 128, sign + 256, 0, '0', 65535}) {
                String text = String.valueOf((char) wrong);
                if (!allowed.contains(text) && found.indexOf(text) < 0) {
                    found.append(text);
                }
            }
        }
        return found.toString().toCharArray();
    }
}
