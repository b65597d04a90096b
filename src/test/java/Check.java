import java.util.Objects;

/** Collects what is not as due, and ends the test with exit code 1 if there was anything. */
final class Check {
    interface Call {
        Object run();
    }

    private final String test;
    private int checks = 0;
    private int wrong = 0;

    Check(String test) {
        this.test = test;
    }

    void due(String what, Object got, Object want) {
        checks++;
        if (!Objects.equals(got, want)) {
            wrong++;
            System.out.println(what + " answered " + got + ", due is " + want);
        }
    }

    /**
     * The call throws exactly this exception, and what little it takes few calls to see stays as it
     * was: the workbench goes on in its test, and has 512 calls in all. Edge.refused sees more.
     */
    void refused(String what, GrammarAmbiguity x, Class<?> exception, Call call) {
        String before = Look.inShort(x);
        due(what, answer(call), "throws." + exception.getSimpleName());
        due("the state behind " + what, Look.inShort(x), before);
    }

    /** What a call answers, or the exception that it throws. */
    static String answer(Call call) {
        try {
            return String.valueOf(call.run());
        } catch (RuntimeException e) {
            return "throws." + e.getClass().getSimpleName();
        }
    }

    static Call call(Runnable body) {
        return () -> {
            body.run();
            return "nothing";
        };
    }

    void end() {
        System.out.println(test + ": " + checks + " checks, " + wrong + " not as due");
        if (wrong != 0 || checks == 0) {
            System.exit(1);
        }
    }
}
