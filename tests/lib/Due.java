/** Counts and prints the answers that are not as due. */
final class Due {
    private int wrong;
    private String test = "";

    /** From here on a wrong answer is told with this test's name. */
    void begin(String name) {
        test = name + ": ";
    }

    void is(String call, long got, long want) {
        if (got == want) return;
        wrong++;
        System.out.println(test + call + " answered " + got + ", due is " + want);
    }

    void is(String call, String got, String want) {
        if (got.equals(want)) return;
        wrong++;
        System.out.println(test + call + " is " + got + ", due is " + want);
    }

    /** A refusal with a finding: it is told, and it is counted. */
    void finds(String call, FirstSeconds x, int got, int finding, int times) {
        is(call, got, FirstSeconds.FINDING);
        is(call + ": finding()", x.finding(), finding);
        is(call + ": findings(" + finding + ")", x.findings(finding), times);
    }

    void threw(Throwable thrown) {
        wrong++;
        System.out.println(test + "threw " + thrown);
        thrown.printStackTrace(System.out);
    }

    void end() {
        System.out.println(wrong == 0 ? "all answers are as due" : wrong + " answers are not as due");
        if (wrong != 0) System.exit(1);
    }
}
