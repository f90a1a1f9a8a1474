/** Counts answers, each under the promise and the sentence of the document that asks for it. */
final class Due {
    private static final int PROMISES = 33;

    private static final boolean[] NAMED = new boolean[PROMISES + 1];

    private static int promise = 0;
    private static String sentence = "";
    private static int sentences = 0;
    private static int answersOfSentence = 1;
    private static int right = 0;
    private static int wrong = 0;

    private Due() {
    }

    /** A test of one sentence begins; what follows is due by it. */
    static void by(int promiseOfIt, String itsWords) {
        if (answersOfSentence == 0) {
            miss("no answer was asked for");
        }
        promise = promiseOfIt;
        sentence = itsWords;
        NAMED[promise] = true;
        sentences++;
        answersOfSentence = 0;
    }

    static void is(String call, long got, long want) {
        answersOfSentence++;
        if (got == want) {
            right++;
        } else {
            miss(call + " answered " + got + ", due is " + want);
        }
    }

    static void is(String call, boolean got, boolean want) {
        is(call, got ? 1 : 0, want ? 1 : 0);
    }

    static void same(String call, String got, String want) {
        answersOfSentence++;
        if (got.equals(want)) {
            right++;
        } else {
            miss(call + " left " + got + ", due is " + want);
        }
    }

    private static void miss(String what) {
        wrong++;
        System.out.println("promise " + promise + ", \"" + sentence + "\": " + what);
    }

    /** Each promise from the first to the last must have been named by a sentence at least. */
    static void close(int first, int last) {
        by(last, "each sentence asks for an answer");
        answersOfSentence = 1;
        for (int i = first; i <= last; i++) {
            if (!NAMED[i]) {
                miss("promise " + i + " has no sentence");
            }
        }
        System.out.println(sentences - 1 + " sentences: " + right + " answers as due, " + wrong + " not");
        if (wrong != 0) {
            System.exit(1);
        }
    }
}
