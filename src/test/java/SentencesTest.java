/** Each sentence of the document that promises something has a test of its own, and holds. */
public final class SentencesTest {
    private SentencesTest() {
    }

    public static void main(String[] args) {
        SentencesOfTerms.tell();
        SentencesOfDetails.tell();
        SentencesOfChanges.tell();
        SentencesOfTies.tell();
        SentencesOfPhases.tell();
        SentencesOfFeuds.tell();
        SentencesOfParts.tell();
        SentencesOfTexts.tell();
        SentencesOfAccounts.tell();
        Sentences.end();
    }
}
