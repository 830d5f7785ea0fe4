/** Each sentence of the document that names an edge, by a test of its own. */
final class EdgeTest {
  public static void main(String[] args) {
    EdgeNumbers.run();
    EdgeSessions.run();
    EdgeTicks.run();
    EdgeSent.run();
    EdgeUpdates.run();
    EdgeRoutes.run();
    EdgeTelling.run();
    EdgePromises.run();
    EdgeRefusals.run();
    Sentences.allNumbersQuoted();
    Checks.finish();
  }
}
