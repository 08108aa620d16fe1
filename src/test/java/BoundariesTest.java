/** For each sentence of the promises that names a boundary case a test of its own. */
public final class BoundariesTest {
  private BoundariesTest() {
  }

  public static void main(String[] args) {
    PlainBoundaries.all();
    TextBoundaries.all();
    CityBoundaries.all();
    AheadBoundaries.all();
    RulesBoundaries.all();
    HostBoundaries.all();
    Sentence.eachPromiseWasTested();
    Check.end("boundaries");
  }
}
