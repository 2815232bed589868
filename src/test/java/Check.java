/** Counts answers that are not as due, and ends the test with them. */
final class Check {
    private final String ahead;
    private int wrong;
    private int asked;
    private int promise;

    Check() {
        this("promise ");
    }

    /** What is told ahead of the number of a promise. */
    Check(String ahead) {
        this.ahead = ahead;
    }

    /** The answers that follow belong to this promise of the document. */
    void promise(int number) {
        promise = number;
    }

    void due(String call, long got, long want) {
        asked++;
        if (got != want) {
            wrong++;
            System.out.println(ahead + promise + ": " + call + " answered " + got + ", due is " + want);
        }
    }

    void end(String name) {
        System.out.println(name + ": " + asked + " answers, " + wrong + " not as due");
        if (wrong != 0 || asked == 0) {
            System.exit(1);
        }
    }
}
