/** Compares answers with those that are due, and tells at the end whether all were right. */
final class Checks {
    private final String name;
    private int made;
    private int wrong;

    Checks(String name) {
        this.name = name;
    }

    void due(String call, long got, long want) {
        made++;
        if (got == want) return;
        wrong++;
        System.out.println(name + ": " + call + " answered " + got + ", due is " + want);
    }

    void due(String call, boolean got, boolean want) {
        due(call, got ? 1 : 0, want ? 1 : 0);
    }

    void badArgument(String call, Runnable calling) {
        due(call + " throws (1 illegal argument, 2 illegal state)", thrown(calling), 1);
    }

    void badState(String call, Runnable calling) {
        due(call + " throws (1 illegal argument, 2 illegal state)", thrown(calling), 2);
    }

    private static int thrown(Runnable calling) {
        try {
            calling.run();
            return 0;
        } catch (IllegalArgumentException e) {
            return 1;
        } catch (IllegalStateException e) {
            return 2;
        }
    }

    void end() {
        System.out.println(name + ": " + (made - wrong) + " of " + made + " answers as due");
        if (wrong != 0) System.exit(1);
    }
}
