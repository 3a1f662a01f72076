/** The document sentence by sentence: what each one says, and the boundaries that it names. */
public final class SentencesTest {
    private SentencesTest() {
    }

    public static void main(String[] args) {
        SentencesOfInput.check();
        SentencesOfChanges.check();
        SentencesOfHistory.check();
        SentencesOfGraph.check();
        SentencesOfTargets.check();
        SentencesOfProofs.check();
        Sentences.allSaid();
        Checks.end();
    }
}
