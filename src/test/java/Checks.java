/** Counts the answers that are not as due, and names the exception that a call throws. */
final class Checks {
    static final String ARGUMENT = "throws.IllegalArgumentException";
    static final String STATE = "throws.IllegalStateException";
    static final String ELEMENT = "throws.NoSuchElementException";

    private int wrong = 0;

    interface Call {
        Object answer();
    }

    static String told(Call call) {
        Object answer;
        try {
            answer = call.answer();
        } catch (RuntimeException e) {
            return "throws." + e.getClass().getSimpleName();
        }
        if (answer instanceof Boolean) {
            return (Boolean) answer ? "1" : "0";
        }
        return String.valueOf(answer);
    }

    void due(String what, Object want, Call call) {
        String got = told(call);
        if (!got.equals(String.valueOf(want))) {
            wrong++;
            System.out.println(what + " answered " + got + ", due is " + want);
        }
    }

    boolean anyWrong() {
        return wrong != 0;
    }

    void close(String name) {
        System.out.println(name + ": " + (wrong == 0 ? "all answers are as due" : wrong + " answers are not as due"));
        if (wrong != 0) {
            System.exit(1);
        }
    }
}
