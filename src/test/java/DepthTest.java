/** Promise 5: depth. */
public final class DepthTest {
  public static void main(String[] args) {
    equalsTheLastFeedsAnswer();
    goesDownWithEachUnfeed();
    tellsHowManyCanBeUnfed();
    changesNothing();
    Check.end();
  }

  private static void equalsTheLastFeedsAnswer() {
    CrcRewind x = new CrcRewind();
    Check.due("fresh depth()", 0, x.depth());
    for (int i = 0; i < 50; i++) {
      int answer = x.feed(-i);
      Check.due("depth() after feed no. " + i, answer, x.depth());
      Check.due("depth() after feed no. " + i, Math.min(i + 1, 16), x.depth());
    }
  }

  private static void goesDownWithEachUnfeed() {
    CrcRewind x = fedWith(16);
    for (int due = 15; due >= 0; due--) {
      x.unfeed();
      Check.due("depth() going down", due, x.depth());
    }
    for (int i = 0; i < 5; i++) {
      x.unfeed();
      Check.due("depth() at the bottom", 0, x.depth());
    }
    x.feed(9);
    Check.due("depth() up again", 1, x.depth());
  }

  private static void tellsHowManyCanBeUnfed() {
    for (int fed = 0; fed <= 40; fed++) {
      CrcRewind x = fedWith(fed);
      int depth = x.depth();
      int taken = 0;
      while (taken < 100 && x.unfeed() != -1) {
        taken++;
      }
      Check.due("depth() after " + fed + " bytes", taken, depth);
      Check.due("bytes taken back after " + fed, Math.min(fed, 16), taken);
    }
  }

  private static void changesNothing() {
    Model.walkUpAndDown(DepthTest::askOften);
  }

  private static void askOften(CrcRewind asked, Model model) {
    for (int i = 0; i < 20; i++) {
      Check.due("depth(), asked again", model.depth(), asked.depth());
    }
    Check.due("value() after depth()", model.value(), asked.value());
  }

  private static CrcRewind fedWith(int count) {
    CrcRewind x = new CrcRewind();
    for (int i = 0; i < count; i++) {
      x.feed(i + 3);
    }
    return x;
  }
}
