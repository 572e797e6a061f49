/** Every sentence of ../shared/DOC.md, a test for each: the Terms, the REFUSALS, the Details and the 41 promises. */
public final class SentencesTest {
    public static void main(String[] args) {
        TermsMap.run();
        TermsOutcomes.run();
        TermsRefusals.run();
        EdgesOfShelves.run();
        EdgesOfMap.run();
        EdgesOfWays.run();
        EdgesOfTold.run();
        EdgesOfTruth.run();
        Edge.allOfTerms(" ==== 1. THE MAP ", " ==== 2. ");
        Edge.allOfTerms(" ==== 2. MILLING AND SPREADING ", " ==== 3. ");
        Edge.allOfTerms(" ==== 3. WHAT COMES OF IT (nothing is changed) ", " REFUSALS (");
        Edge.allOfTerms(" the first 20 are kept. ", " Details. ");
        Edge.allOfTerms(" Details. ", " ## Promise 1: ");
        Edge.allOfPromises(1, 41);
        Due.end();
    }
}
