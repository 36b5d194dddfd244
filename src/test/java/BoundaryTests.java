import java.io.IOException;

/**
 * Each sentence of the document that names a boundary case, one after the other, with its promise's number
 * and its words: Terms I to IV (TextBounds, WorkBounds, PlanBounds, AskBounds), promises 1 to 30 (CallBounds).
 */
public final class BoundaryTests {
  private BoundaryTests() { }

  public static void main(String[] args) throws IOException {
    Bench.open();
    TextBounds.run();
    WorkBounds.run();
    PlanBounds.run();
    AskBounds.run();
    CallBounds.run();
    Bench.plain("Terms", "What can be cut, what would fall", "A PIT is a text");
    Bench.plain("Terms", "The constants:", "(to the end)");
    Bench.allQuoted("Terms");
    for (int n = 1; n <= 30; n++) {
      Bench.plain("Promise " + n, "`", "`: ");
      Bench.allQuoted("Promise " + n);
    }
    Bench.close();
  }
}
