/** Promise 1: a fresh instance. Above each test stands the sentence that it is for. */
public final class FreshInstanceTest {
  public static void main(String[] args) {
    alwaysSucceeds();
    registerIsAllOnes();
    nothingIsRemembered();
    valueIsZero();
    depthIsZero();
    unfeedIsRefusedAndChangesNothing();
    instancesShareNothing();
    laterInstanceIsFresh();
    Check.end();
  }

  /** "new CrcRewind() always succeeds." */
  private static void alwaysSucceeds() {
    CrcRewind[] kept = new CrcRewind[10_000];
    for (int i = 0; i < kept.length; i++) {
      kept[i] = new CrcRewind();
      Check.due("first feed to instance " + i, 1, kept[i].feed(i));
      Check.due("second feed to instance " + i, 2, kept[i].feed(i / 256));
    }
    for (int i = 0; i < kept.length; i++) {
      Check.due("first unfeed() of instance " + i, i / 256, kept[i].unfeed());
      Check.due("second unfeed() of instance " + i, i % 256, kept[i].unfeed());
    }
  }

  /**
   * "the register is -1 (all 32 bits set)". A fresh value() of 0 could also come from a
   * register of 0 that isn't complemented; the first byte fed tells the two apart.
   */
  private static void registerIsAllOnes() {
    CrcRewind x = new CrcRewind();
    x.feed(0);
    Check.due("value() after feed(0)", 0xD202EF8D, x.value());
    CrcRewind y = new CrcRewind();
    y.feed(255);
    Check.due("value() after feed(255)", 0xFF000000, y.value());
  }

  /** "nothing is remembered; depth is 0". */
  private static void nothingIsRemembered() {
    CrcRewind x = new CrcRewind();
    x.feed(7);
    Check.due("unfeed() of the only byte", 7, x.unfeed());
    Check.due("unfeed() below it", -1, x.unfeed());
  }

  /** "value() answers 0 (the bitwise complement of -1)". */
  private static void valueIsZero() {
    Check.due("fresh value()", 0, new CrcRewind().value());
  }

  /** "depth() answers 0". */
  private static void depthIsZero() {
    Check.due("fresh depth()", 0, new CrcRewind().depth());
  }

  /** "unfeed() would answer -1 and change nothing." */
  private static void unfeedIsRefusedAndChangesNothing() {
    CrcRewind x = new CrcRewind();
    Check.due("fresh unfeed()", -1, x.unfeed());
    Check.due("value() after it", 0, x.value());
    Check.due("depth() after it", 0, x.depth());
    Check.due("feed(49) after it", 1, x.feed(49));
    Check.due("value() after feed(49)", 0x83DCEFB7, x.value());
    Check.due("unfeed() of the 49", 49, x.unfeed());
    Check.due("unfeed() below the 49", -1, x.unfeed());
  }

  /** "Separate instances do not share state; what is done to one has no effect on another." */
  private static void instancesShareNothing() {
    Pair a = new Pair("a");
    Pair b = new Pair("b");
    Pair untouched = new Pair("untouched");
    for (int i = 0; i < 40; i++) {
      a.feed(i);
      if (i % 3 == 0) {
        b.feed(200 - i);
      }
      a.sameState();
      untouched.sameState();
    }
    for (int i = 0; i < 20; i++) {
      a.unfeed();
      b.sameState();
      untouched.sameState();
    }
    b.sameMemory();
    untouched.sameMemory();
  }

  /** The same sentence, for an instance that is made when another one is full. */
  private static void laterInstanceIsFresh() {
    Pair used = Pair.atDepth(16);
    CrcRewind later = new CrcRewind();
    Check.due("later value()", 0, later.value());
    Check.due("later depth()", 0, later.depth());
    Check.due("later unfeed()", -1, later.unfeed());
    used.sameState();
    used.sameMemory();
  }
}
