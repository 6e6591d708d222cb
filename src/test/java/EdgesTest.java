import java.io.IOException;
import java.util.List;

/**
 * Boundary cases of promises 1 to 50 and of the terms behind them, each named by the words of the document that it
 * belongs to; and whether each sentence of the document has such cases.
 */
public final class EdgesTest {
    public static void main(String[] args) throws IOException {
        TermsEdges.all();
        ResultsEdges.all();
        MoneyEdges.all();
        DayEdges.all();
        TicketsEdges.all();
        DrawersEdges.all();
        SatchelsEdges.all();
        LapsEdges.all();
        AsksEdges.all();
        Document document = new Document();
        wordsStandIn(document);
        sentencesHaveCases(document);
        Expect.end();
    }

    private static void wordsStandIn(Document document) {
        for (Edge.Words words : Edge.named()) {
            Expect.holds(words.section + " has the words \"" + words.text + "\"", document.has(words));
            Expect.holds(words.section + ", \"" + words.text + "\" has cases", words.cases > 0);
        }
    }

    private static void sentencesHaveCases(Document document) {
        requireCases("Terms", document);
        for (int promise = 1; promise <= 50; promise++) {
            requireCases("Promise " + promise, document);
        }
    }

    private static void requireCases(String section, Document document) {
        List<String> without = document.sentencesWithoutCases(section, Edge.named());
        Expect.holds(section + ", sentences without a case: " + without, without.isEmpty());
    }
}
