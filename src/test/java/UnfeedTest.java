/** Promise 3: unfeed. */
public final class UnfeedTest {
  public static void main(String[] args) {
    documentsTwentyBytes();
    emptiedAnswersMinusOneAgainAndAgain();
    undoesTheFeedJustBefore();
    aByteOf255IsNotMinusOne();
    forgottenBytesStayForgotten();
    fedAgainAfterUnfeeding();
    feedAndUnfeedAtTheLimit();
    Check.end();
  }

  private static void documentsTwentyBytes() {
    CrcRewind x = new CrcRewind();
    int[] valueAfter = new int[21];
    for (int i = 1; i <= 20; i++) {
      x.feed(i * 11);
      valueAfter[i] = x.value();
    }
    Check.due("depth() after 20 bytes", 16, x.depth());
    for (int i = 20; i >= 5; i--) {
      Check.due("unfeed() of byte " + i, i * 11, x.unfeed());
      Check.due("value() before byte " + i, valueAfter[i - 1], x.value());
      Check.due("depth() before byte " + i, i - 5, x.depth());
    }
    Check.due("seventeenth unfeed()", -1, x.unfeed());
    Check.due("value() after it", valueAfter[4], x.value());
    Check.due("depth() after it", 0, x.depth());
  }

  private static void emptiedAnswersMinusOneAgainAndAgain() {
    for (int fed = 0; fed <= 35; fed++) {
      CrcRewind x = new CrcRewind();
      Model model = new Model();
      for (int i = 0; i < fed; i++) {
        x.feed(i);
        model.feed(i);
      }
      for (int i = 0; i < 40; i++) {
        Check.due("unfeed() no. " + i + " after " + fed, model.unfeed(), x.unfeed());
        model.compareState("unfeed() no. " + i + " after " + fed, x);
      }
      Check.due("feed(77) once emptied", 1, x.feed(77));
      model.feed(77);
      model.compareState("feed(77) once emptied after " + fed, x);
      Check.due("unfeed() of the 77", 77, x.unfeed());
      Check.due("unfeed() after the 77", -1, x.unfeed());
    }
  }

  private static void undoesTheFeedJustBefore() {
    for (int before = 0; before <= 20; before++) {
      for (int b = -300; b <= 300; b++) {
        CrcRewind x = new CrcRewind();
        for (int i = 0; i < before; i++) {
          x.feed(i + 90);
        }
        int value = x.value();
        int depth = x.depth();
        x.feed(b);
        Check.due("unfeed() of " + b + " at " + before, b & 255, x.unfeed());
        Check.due("value() after unfeed() of " + b + " at " + before, value, x.value());
        int due = depth == 16 ? 15 : depth;
        Check.due("depth() after unfeed() of " + b + " at " + before, due, x.depth());
      }
    }
  }

  private static void aByteOf255IsNotMinusOne() {
    CrcRewind x = new CrcRewind();
    x.feed(-1);
    x.feed(255);
    Check.due("unfeed() of 255", 255, x.unfeed());
    Check.due("unfeed() of -1", 255, x.unfeed());
    Check.due("unfeed() of nothing", -1, x.unfeed());
  }

  private static void forgottenBytesStayForgotten() {
    CrcRewind x = new CrcRewind();
    for (int i = 1; i <= 17; i++) {
      x.feed(i);
    }
    Check.due("unfeed() of byte 17", 17, x.unfeed());
    Check.due("depth() after it", 15, x.depth());
    for (int i = 16; i >= 2; i--) {
      Check.due("unfeed() of byte " + i, i, x.unfeed());
    }
    Check.due("unfeed() of the forgotten byte 1", -1, x.unfeed());
    Check.due("value() after it", 0xA505DF1B, x.value());
  }

  private static void fedAgainAfterUnfeeding() {
    CrcRewind x = new CrcRewind();
    Model model = new Model();
    for (int i = 0; i < 20; i++) {
      x.feed(i);
      model.feed(i);
    }
    for (int back = 1; back <= 18; back++) {
      for (int i = 0; i < back; i++) {
        Check.due("unfeed() in round " + back, model.unfeed(), x.unfeed());
      }
      for (int i = 0; i < back + 1; i++) {
        int b = back * 20 + i;
        Check.due("feed(" + b + ") in round " + back, model.feed(b), x.feed(b));
        model.compareState("feed(" + b + ") in round " + back, x);
      }
    }
  }

  private static void feedAndUnfeedAtTheLimit() {
    CrcRewind x = new CrcRewind();
    for (int i = 1; i <= 16; i++) {
      x.feed(i);
    }
    Check.due("feed(17) at the limit", 16, x.feed(17));
    Check.due("unfeed() at the limit", 17, x.unfeed());
    Check.due("feed(18) below the limit", 16, x.feed(18));
    Check.due("unfeed()", 18, x.unfeed());
    for (int i = 16; i >= 2; i--) {
      Check.due("unfeed() of byte " + i, i, x.unfeed());
    }
    Check.due("unfeed() of byte 1, forgotten at 17", -1, x.unfeed());
  }
}
