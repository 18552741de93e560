/** Counts answers that are not due, and tells each. */
final class Check {
    private static int wrong = 0;
    private static int asked = 0;
    private static int sentences = 0;
    private static String sentence = "";

    private Check() {
    }

    /** Runs the test of one sentence of the document; what it finds is told with the sentence. */
    static void sentence(String text, Runnable test) {
        int before = asked;
        sentence = text + " | ";
        try {
            test.run();
        } catch (RuntimeException e) {
            tell("ended by " + e);
        }
        if (asked == before) {
            tell("nothing was asked");
        }
        sentences++;
        sentence = "";
    }

    static void same(String call, double got, double due) {
        asked++;
        if (got != due) {
            tell(call + " answered " + got + ", due is " + due);
        }
    }

    static void same(String call, Object got, Object due) {
        asked++;
        if (!got.equals(due)) {
            tell(call + " answered " + got + ", due is " + due);
        }
    }

    static void holds(String call, boolean got) {
        same(call, got, true);
    }

    static void fails(String call, boolean got) {
        same(call, got, false);
    }

    static void raises(String call, Class<?> due, Runnable run) {
        asked++;
        try {
            run.run();
            tell(call + " threw nothing, due is " + due.getName());
        } catch (RuntimeException e) {
            if (e.getClass() != due) {
                tell(call + " threw " + e.getClass().getName() + ", due is " + due.getName());
            }
        }
    }

    private static void tell(String text) {
        wrong++;
        if (wrong <= 50) {
            System.out.println(sentence + text);
        }
    }

    static void end() {
        String about = sentences == 0 ? "" : sentences + " sentences, ";
        System.out.println(about + asked + " answers, " + wrong + " not as due");
        if (wrong > 0) {
            System.exit(1);
        }
    }
}
