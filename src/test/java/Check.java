/** Counts the answers that are not as due. */
final class Check {
    private static int made = 0;
    private static int wrong = 0;

    private Check() {
    }

    interface Call {
        Object run();
    }

    static void due(String what, Object got, Object want) {
        made++;
        if (!want.equals(got)) {
            wrong++;
            System.out.println(what + " answered " + got + ", due is " + want);
        }
    }

    /** The very class of the exception is asked for, so that none of the machine's own passes. */
    static void thrown(String what, Class<? extends Exception> kind, Call call) {
        Object got;
        try {
            got = "the answer " + call.run();
        } catch (Exception e) {
            got = e.getClass();
        }
        due(what, got, kind);
    }

    static int made() {
        return made;
    }

    static void end(String name) {
        System.out.println(name + ": " + made + " checks, " + wrong + " wrong");
        if (wrong != 0) {
            System.exit(1);
        }
    }
}
