/** Counts what a test looks at and what is wrong, and ends the test's program accordingly. */
final class Check {
    /** A call that may throw. */
    interface Call {
        void run();
    }

    private static final int MOST_SHOWN = 40;
    private static final long MOST_MILLISECONDS = 300_000;

    private final String test;
    private String sentence = "";
    private int lookedBefore = -1;
    private int looked = 0;
    private int wrong = 0;

    Check(String test) {
        this.test = test;
        Thread watch = new Thread(this::endLateTest);
        watch.setDaemon(true);
        watch.start();
    }

    /** A call that does not end would else hold up all tests instead of failing its own. */
    private void endLateTest() {
        try {
            Thread.sleep(MOST_MILLISECONDS);
        } catch (InterruptedException unexpected) {
            System.out.println(test + ": the watch was interrupted");
        }
        System.out.println(test + ": " + sentence + "does not end");
        Runtime.getRuntime().halt(1);
    }

    /** What is looked at from now on is for these words of a part of the document; a complaint tells them. */
    void sentence(String part, String words) {
        endSentence();
        sentence = part + ", \"" + words + "\": ";
        lookedBefore = looked;
    }

    private void endSentence() {
        if (looked == lookedBefore) {
            isTrue("nothing was looked at", false);
        }
    }

    void same(String what, long got, long want) {
        isTrue(what + " is " + got + ", due is " + want, got == want);
    }

    void same(String what, String got, String want) {
        isTrue(what + " is " + got + ", due is " + want, got.equals(want));
    }

    void isTrue(String complaint, boolean holds) {
        looked++;
        if (!holds) {
            wrong++;
            if (wrong <= MOST_SHOWN) {
                System.out.println(test + ": " + sentence + complaint);
            }
        }
    }

    void taken(String what, Call call) {
        same(what, thrownBy(call), "nothing thrown");
    }

    void badArgument(String what, Call call) {
        same(what, thrownBy(call), "IllegalArgumentException");
    }

    void badIndex(String what, Call call) {
        same(what, thrownBy(call), "IndexOutOfBoundsException");
    }

    void badState(String what, Call call) {
        same(what, thrownBy(call), "IllegalStateException");
    }

    /** The exact class, since a call must not throw by itself, such as by an array's index. */
    static String thrownBy(Call call) {
        try {
            call.run();
        } catch (RuntimeException thrown) {
            return thrown.getClass().getSimpleName();
        }
        return "nothing thrown";
    }

    void end() {
        endSentence();
        System.out.println(test + ": " + looked + " looked at, " + wrong + " wrong");
        if (wrong != 0 || looked == 0) {
            System.exit(1);
        }
    }
}
