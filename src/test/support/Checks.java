import java.util.NoSuchElementException;

/** What the project's tests share: counts and prints every answer that is not the one that is due. */
final class Checks {
    interface Call {
        long answer();
    }

    private int wrong = 0;
    private int calls = 0;
    private String sentence = "";

    /** Wrong answers from here on are told together with these words of the document. */
    void sentence(String words) {
        sentence = "\"" + words + "\": ";
    }

    void due(String call, long got, long want) {
        calls++;
        if (got != want) {
            wrong++;
            System.out.println(sentence + call + " answered " + got + ", due is " + want);
        }
    }

    void due(String call, boolean got, boolean want) {
        due(call, got ? 1 : 0, want ? 1 : 0);
    }

    void throwsNoSuchElement(String call, Call body) {
        calls++;
        try {
            long got = body.answer();
            wrong++;
            System.out.println(sentence + call + " answered " + got + ", due is NoSuchElementException");
        } catch (NoSuchElementException e) {
            return;
        }
    }

    void end() {
        System.out.println(wrong == 0 ? calls + " answers are as due" : wrong + " answers are not as due");
        if (wrong != 0) {
            System.exit(1);
        }
    }
}
