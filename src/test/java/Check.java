/** Counts the answers of one test class that are not as due, and tells of each. */
final class Check {
    interface Call {
        void make();
    }

    private int wrong;
    private int asked;

    void due(String what, long got, long want) {
        asked++;
        if (got != want) {
            tell(what + " answered " + got + ", due is " + want);
        }
    }

    void holds(String what, boolean holds) {
        asked++;
        if (!holds) {
            tell(what + " does not hold");
        }
    }

    /** The exception must be of this very class: what the Java machine throws by itself is of classes below. */
    void dueThrow(String what, Class<? extends RuntimeException> want, Call call) {
        asked++;
        try {
            call.make();
            tell(what + " threw nothing, due is " + want.getSimpleName());
        } catch (RuntimeException e) {
            if (e.getClass() != want) {
                tell(what + " threw " + e + ", due is " + want.getSimpleName());
            }
        }
    }

    void end() {
        System.out.println(wrong == 0 ? asked + " answers are as due" : wrong + " of " + asked + " are not as due");
        if (wrong != 0) {
            System.exit(1);
        }
    }

    private void tell(String text) {
        wrong++;
        if (wrong <= 20) {
            System.out.println(text);
        }
    }
}
