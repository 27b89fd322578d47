/** Counts and prints the answers that are not as due; shared by the project's tests. */
final class Checks {
    private int made = 0;
    private int wrong = 0;
    private int sentences = 0;
    private String part = "";

    void part(String name) {
        part = name;
    }

    /** The test of one sentence of the document: a call that throws breaks that sentence alone. */
    void sentence(String words, Runnable test) {
        part(words);
        sentences++;
        int before = made;
        try {
            test.run();
        } catch (RuntimeException e) {
            holds("that no call throws (" + e + ")", false);
        }
        holds("that something is tested", made > before);
    }

    void due(String call, long got, long want) {
        made++;
        if (got != want) {
            wrong++;
            System.out.println(part + ": " + call + " answered " + got + ", due is " + want);
        }
    }

    void same(String what, String got, String want) {
        made++;
        if (!got.equals(want)) {
            wrong++;
            System.out.println(part + ": " + what + " is\n" + got + "due is\n" + want);
        }
    }

    void holds(String what, boolean is) {
        made++;
        if (!is) {
            wrong++;
            System.out.println(part + ": " + what + " does not hold");
        }
    }

    boolean anyWrong() {
        return wrong != 0;
    }

    void end() {
        String of = sentences == 0 ? "" : " of " + sentences + " sentences";
        System.out.println(made + " checks" + of + ", " + wrong + " wrong");
        if (wrong != 0) {
            System.exit(1);
        }
    }
}
