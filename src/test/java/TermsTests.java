import java.io.IOException;

/**
 * The sentences of "Terms", one after the other: the calls that reach each boundary, and one
 * step to each side of it. Those about steps and orders stand in TermsOfOrders, those about a
 * run, THE TEXT, STATES and refusals in TermsOfRuns.
 */
public final class TermsTests {
    private TermsTests() {
    }

    public static void main(String[] args) throws IOException {
        Sentences doc = new Sentences("TermsTests", "Terms");
        new TermsOfSteps(doc).all();
        new TermsOfOrders(doc).all();
        new TermsOfRuns(doc).all();
        doc.end();
    }
}
