/** Promise 1: a fresh instance. */
public final class FreshInstanceTest {
  public static void main(String[] args) {
    freshAnswers();
    freshUnfeedChangesNothing();
    registerStartsAtAllOnes();
    instancesShareNothing();
    laterInstanceIsFresh();
    Check.end();
  }

  private static void freshAnswers() {
    Check.due("fresh value()", 0, new CrcRewind().value());
    Check.due("fresh depth()", 0, new CrcRewind().depth());
    Check.due("fresh unfeed()", -1, new CrcRewind().unfeed());
    Check.due("fresh feed(0)", 1, new CrcRewind().feed(0));
  }

  private static void freshUnfeedChangesNothing() {
    CrcRewind x = new CrcRewind();
    for (int i = 0; i < 40; i++) {
      Check.due("fresh unfeed() no. " + i, -1, x.unfeed());
      Check.due("value() after it", 0, x.value());
      Check.due("depth() after it", 0, x.depth());
    }
    Check.due("feed(49) after fresh unfeeds", 1, x.feed(49));
    Check.due("value() after feed(49)", 0x83DCEFB7, x.value());
  }

  // A fresh value() of 0 could also come from a register of 0 that isn't complemented;
  // the first byte fed tells the two apart.
  private static void registerStartsAtAllOnes() {
    CrcRewind x = new CrcRewind();
    x.feed(0);
    Check.due("value() after feed(0)", 0xD202EF8D, x.value());
  }

  private static void instancesShareNothing() {
    CrcRewind a = new CrcRewind();
    CrcRewind b = new CrcRewind();
    Model modelA = new Model();
    Model modelB = new Model();
    for (int i = 0; i < 40; i++) {
      Check.due("a.feed(" + i + ")", modelA.feed(i), a.feed(i));
      if (i % 3 == 0) {
        Check.due("b.feed(" + (200 - i) + ")", modelB.feed(200 - i), b.feed(200 - i));
      }
      modelA.compareState("a, turn " + i, a);
      modelB.compareState("b, turn " + i, b);
    }
    for (int i = 0; i < 20; i++) {
      Check.due("a.unfeed()", modelA.unfeed(), a.unfeed());
      modelA.compareState("a, back " + i, a);
      modelB.compareState("b, a's back " + i, b);
    }
    for (int i = 0; i < 20; i++) {
      Check.due("b.unfeed()", modelB.unfeed(), b.unfeed());
    }
  }

  private static void laterInstanceIsFresh() {
    CrcRewind used = new CrcRewind();
    for (int i = 0; i < 30; i++) {
      used.feed(i * 7);
    }
    CrcRewind later = new CrcRewind();
    Check.due("later value()", 0, later.value());
    Check.due("later depth()", 0, later.depth());
    Check.due("later unfeed()", -1, later.unfeed());
    Check.due("used depth()", 16, used.depth());
  }
}
