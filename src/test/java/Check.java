/** Counts answers that are not as due and prints them; a test's exit code tells whether there were any. */
final class Check {
    private int answers = 0;
    private int wrong = 0;

    void same(String call, long got, long due) {
        answers++;
        if (got != due) {
            wrong++;
            if (wrong <= 40) {
                System.out.println(call + " answered " + got + ", due is " + due);
            }
        }
    }

    void holds(String what, boolean so) {
        answers++;
        if (!so) {
            wrong++;
            System.out.println("not so: " + what);
        }
    }

    int wrong() {
        return wrong;
    }

    /** Ends the program with exit code 1 if an answer was wrong, or if there was none at all. */
    void end() {
        System.out.println(answers + " answers, " + wrong + " not as due");
        if (wrong != 0 || answers == 0) {
            System.exit(1);
        }
    }
}
