/** Counts the answers that are not the ones that are due, and tells each. */
final class Check {
    /** A call that is expected to throw. */
    interface Call {
        void make();
    }

    private int wrong;

    void due(String what, long answer, long due) {
        if (answer != due) {
            wrong++;
            System.out.println(what + ": " + answer + ", but due is " + due);
        }
    }

    void due(String what, String answer, String due) {
        if (!answer.equals(due)) {
            wrong++;
            System.out.println(what + ": " + answer + ", but due is " + due);
        }
    }

    void due(String what, double answer, double due) {
        if (answer != due) {
            wrong++;
            System.out.println(what + ": " + answer + ", but due is " + due);
        }
    }

    void due(String what, boolean answer, boolean due) {
        if (answer != due) {
            wrong++;
            System.out.println(what + ": " + answer + ", but due is " + due);
        }
    }

    /** The call has to throw exactly this, and the digest has to be as it was behind it. */
    void refused(String what, SlideDeck deck, Class<? extends RuntimeException> due, Call call) {
        long before = deck.digest();
        Class<?> thrown = null;
        try {
            call.make();
        } catch (RuntimeException answer) {
            thrown = answer.getClass();
        }
        if (thrown != due) {
            wrong++;
            System.out.println(what + ": " + thrown + ", but due is " + due);
        }
        due(what + " (nothing is changed)", deck.digest(), before);
    }

    void noIndex(String what, SlideDeck deck, Call call) {
        refused(what, deck, IndexOutOfBoundsException.class, call);
    }

    void badArgument(String what, SlideDeck deck, Call call) {
        refused(what, deck, IllegalArgumentException.class, call);
    }

    void badState(String what, SlideDeck deck, Call call) {
        refused(what, deck, IllegalStateException.class, call);
    }

    void end() {
        if (wrong > 0) {
            System.out.println(wrong + " wrong");
            System.exit(1);
        }
    }
}
