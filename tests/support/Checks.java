/** Counts what was checked and prints what is not as due. */
public final class Checks {
    private static final int MOST_PRINTED = 40;

    private long checked;
    private long wrong;

    public void due(String call, long got, long want) {
        checked++;
        if (got == want) return;
        wrong++;
        if (wrong <= MOST_PRINTED) System.out.println(call + " answered " + got + ", due is " + want);
    }

    public void isTrue(String what, boolean fact) {
        due(what, fact ? 1 : 0, 1);
    }

    /** Ends the test: with exit code 1 if an answer was wrong or nothing was checked. */
    public void end(String name) {
        System.out.println(name + ": " + checked + " answers checked, " + wrong + " not as due");
        if (wrong != 0 || checked == 0) System.exit(1);
    }
}
