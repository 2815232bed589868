/** Counts answers that are not as due, and ends the test with them. */
final class Check {
    private int wrong;
    private int asked;
    private int promise;

    /** The answers that follow belong to this promise of the document. */
    void promise(int number) {
        promise = number;
    }

    void due(String call, long got, long want) {
        asked++;
        if (got != want) {
            wrong++;
            System.out.println("promise " + promise + ": " + call + " answered " + got + ", due is " + want);
        }
    }

    void end(String name) {
        System.out.println(name + ": " + asked + " answers, " + wrong + " not as due");
        if (wrong != 0 || asked == 0) {
            System.exit(1);
        }
    }
}
