/** Counts and prints the calls whose answer is not the one that is due. */
final class Due {
    private final String about;
    private int asked;
    private int wrong;

    Due(String about) {
        this.about = about;
    }

    void is(String call, long got, long want) {
        hold(call, got == want, String.valueOf(got), String.valueOf(want));
    }

    void same(String call, String got, String want) {
        hold(call, got.equals(want), got, want);
    }

    private void hold(String call, boolean fine, String got, String want) {
        asked++;
        if (!fine) {
            wrong++;
            if (wrong <= 50) {
                System.out.println(about + ": " + call + " answered " + got + ", due is " + want);
            }
        }
    }

    int wrong() {
        return wrong;
    }

    void end() {
        System.out.println(about + ": " + asked + " answers looked at, " + wrong + " not as due");
        if (wrong != 0 || asked == 0) {
            System.exit(1);
        }
    }
}
