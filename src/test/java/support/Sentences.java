/** A check whose answers each belong to a sentence of the document. */
final class Sentences {
    static final int LEAST = Integer.MIN_VALUE, MOST = Integer.MAX_VALUE;

    private final Check check;
    private final Document document = Document.open();
    private final int[] answersByPromise = new int[Document.PROMISES + 1];
    private int promise = 0;
    private String words = "";

    Sentences(String test) {
        check = new Check(test);
    }

    /** What comes next is due by these words of a promise; 0 stands for what the document says ahead of them. */
    void by(int promiseNumber, String wordsOfIt) {
        promise = promiseNumber;
        words = wordsOfIt;
        check.holds("the document says at " + promise + ": " + words, document.says(promise, words));
    }

    void due(String call, long got, long want) {
        answersByPromise[promise]++;
        check.due("[" + promise + ": " + words + "] " + call, got, want);
    }

    /** A number that a call asks for: from one to another; those beside them, and the farthest, are refused. */
    static int[] beside(int from, int to) {
        return new int[] {from - 1, to + 1, LEAST, MOST};
    }

    void end(int firstPromise, int lastPromise) {
        for (int n = firstPromise; n <= lastPromise; n++) {
            check.holds("promise " + n + " has a boundary case", answersByPromise[n] > 0);
        }
        check.end();
    }
}
