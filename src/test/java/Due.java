/** Counts and prints the answers that are not the ones that are due. */
final class Due {
    private int wrong = 0;
    private String sentence = "";

    /** The sentence of the document that the answers from here on belong to. */
    void sentence(String words) {
        sentence = "[" + words + "] ";
    }

    void is(String call, long got, long want) {
        if (got != want) {
            tell(call + " answered " + got + ", due is " + want);
        }
    }

    void is(String call, boolean got, boolean want) {
        if (got != want) {
            tell(call + " answered " + got + ", due is " + want);
        }
    }

    private void tell(String fault) {
        wrong++;
        System.out.println(sentence + fault);
    }

    void end() {
        if (wrong != 0) {
            System.out.println(wrong + " answers are not as due");
            System.exit(1);
        }
    }
}
