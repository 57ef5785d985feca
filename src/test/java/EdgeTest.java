/** The document, sentence by sentence: each has a test of its own, the edges that it names above all. */
public final class EdgeTest {
    public static void main(String[] args) {
        EdgeTexts.run();
        EdgeDays.run();
        EdgeQuestions.run();
        EdgePromises.run();
        Refusals.run();
        Doc.close();
        Due.close("EdgeTest");
    }
}
