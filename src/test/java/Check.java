/** Counts the answers of one test class that are not as due, and tells of each. */
final class Check {
    interface Call {
        void make();
    }

    interface NumberedCall {
        void make(int number);
    }

    private String sentence = "";
    private int wrong;
    private int asked;

    /** What the answers from here on are asked for: told with each one that is not as due. */
    void sentence(String text) {
        sentence = text + ": ";
    }

    void due(String what, long got, long want) {
        asked++;
        if (got != want) {
            tell(what + " answered " + got + ", due is " + want);
        }
    }

    void holds(String what, boolean holds) {
        asked++;
        if (!holds) {
            tell(what + " does not hold");
        }
    }

    /** The exception must be of this very class: what the Java machine throws by itself is of classes below. */
    void dueThrow(String what, Class<? extends RuntimeException> want, Call call) {
        asked++;
        try {
            call.make();
            tell(what + " threw nothing, due is " + want.getSimpleName());
        } catch (RuntimeException e) {
            if (e.getClass() != want) {
                tell(what + " threw " + e + ", due is " + want.getSimpleName());
            }
        }
    }

    void dueNoThrow(String what, Call call) {
        asked++;
        try {
            call.make();
        } catch (RuntimeException e) {
            tell(what + " threw " + e + ", due is an answer");
        }
    }

    /** Each number from the least to the greatest is taken; one step beyond them, and far beyond, none is. */
    void dueRange(String what, int least, int greatest, Class<? extends RuntimeException> beyond, NumberedCall call) {
        for (int number = least; number <= greatest; number++) {
            int inside = number;
            dueNoThrow(what + " with " + inside, () -> call.make(inside));
        }
        dueBeyond(what, least, greatest, beyond, call);
    }

    void dueBeyond(String what, int least, int greatest, Class<? extends RuntimeException> beyond, NumberedCall call) {
        for (int outside : new int[] {least - 1, greatest + 1, Integer.MIN_VALUE, Integer.MAX_VALUE}) {
            dueThrow(what + " with " + outside, beyond, () -> call.make(outside));
        }
    }

    void end() {
        System.out.println(wrong == 0 ? asked + " answers are as due" : wrong + " of " + asked + " are not as due");
        if (wrong != 0) {
            System.exit(1);
        }
    }

    private void tell(String text) {
        wrong++;
        if (wrong <= 20) {
            System.out.println(sentence + text);
        }
    }
}
