/** Counts answers that are not as due, told with the promise that they break. */
final class Due {
    private int wrong = 0;
    private int promise = 0;

    void promise(int number) {
        promise = number;
    }

    void is(String call, int got, int want) {
        if (got != want) {
            wrong++;
            System.out.println("promise " + promise + ": " + call + " answered " + got + ", due is " + want);
        }
    }

    void is(String what, boolean stands) {
        is(what, stands ? 1 : 0, 1);
    }

    void end() {
        if (wrong != 0) {
            System.out.println(wrong + " answers are not as due");
            System.exit(1);
        }
    }
}
