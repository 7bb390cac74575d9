/** Counts what is as due and prints what is not. */
final class Checks {
    private String about = "";
    private int right;
    private int wrong;

    /** The test of one sentence of the document: it is wrong, too, if it looks at nothing or breaks off. */
    void sentence(String words, Runnable test) {
        about = words + " | ";
        int before = right + wrong;
        try {
            test.run();
        } catch (RuntimeException e) {
            due("the test", "broke off by " + e, "a test to its end");
        }
        if (right + wrong == before) {
            due("the test", "nothing looked at", "a look");
        }
        about = "";
    }

    void due(String what, long got, long want) {
        due(what, Long.toString(got), Long.toString(want));
    }

    void due(String what, boolean got, boolean want) {
        due(what, Boolean.toString(got), Boolean.toString(want));
    }

    void due(String what, String got, String want) {
        if (got.equals(want)) {
            right++;
        } else {
            wrong++;
            System.out.println(about + what + " answered " + got + ", due is " + want);
        }
    }

    /** The very class is due, since a caller is promised no other. */
    void dueThrow(String what, Class<? extends RuntimeException> want, Runnable call) {
        String got = "nothing thrown";
        try {
            call.run();
        } catch (RuntimeException e) {
            got = e.getClass().getName();
        }
        due(what, got, want.getName());
    }

    void end() {
        System.out.println(right + " answers as due, " + wrong + " not");
        if (wrong != 0 || right == 0) {
            System.exit(1);
        }
    }
}
