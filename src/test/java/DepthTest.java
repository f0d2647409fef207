/** Promise 5: depth. Above each test stands the sentence that it is for. */
public final class DepthTest {
  public static void main(String[] args) {
    answersHowManyCanBeUnfed();
    zeroOnAFreshInstance();
    equalsTheLastFeedsAnswer();
    goesDownWithEachUnfeed();
    refusedUnfeedLeavesIt();
    changesNothing();
    Check.end();
  }

  /** "int depth() answers how many bytes can be un-fed now, a value in 0..16." */
  private static void answersHowManyCanBeUnfed() {
    for (int fed = 0; fed <= 40; fed++) {
      CrcRewind x = Counted.fedTo(fed);
      int depth = x.depth();
      int taken = 0;
      while (taken < 100 && x.unfeed() != -1) {
        taken++;
      }
      Check.due("depth() after " + fed + " bytes", taken, depth);
      Check.due("bytes taken back after " + fed, Math.min(fed, 16), taken);
    }
  }

  /** "It is 0 on a fresh instance". */
  private static void zeroOnAFreshInstance() {
    Check.due("fresh depth()", 0, new CrcRewind().depth());
  }

  /** "equals the answer of the most recent feed if no unfeed has happened since". */
  private static void equalsTheLastFeedsAnswer() {
    for (int back = 0; back <= 17; back++) {
      CrcRewind x = Counted.fedTo(20);
      for (int i = 0; i < back; i++) {
        x.unfeed();
      }
      for (int i = 1; i <= 40; i++) {
        int answer = x.feed(-i);
        Check.due("depth() after feed no. " + i, answer, x.depth());
      }
    }
  }

  /** "goes down by 1 with each unfeed that does not answer -1." */
  private static void goesDownWithEachUnfeed() {
    for (int fed = 1; fed <= 40; fed++) {
      CrcRewind x = Counted.fedTo(fed);
      for (int before = Math.min(fed, 16); before > 0; before--) {
        Check.holds("unfeed() at " + before + " is not refused", x.unfeed() != -1);
        Check.due("depth() going down", before - 1, x.depth());
      }
    }
  }

  /** The same sentence, for an unfeed that does answer -1. */
  private static void refusedUnfeedLeavesIt() {
    for (int fed = 0; fed <= 40; fed++) {
      CrcRewind x = Counted.fedTo(fed);
      for (int i = 0; i < 16; i++) {
        x.unfeed();
      }
      for (int i = 0; i < 20; i++) {
        Check.due("unfeed() at the bottom", -1, x.unfeed());
        Check.due("depth() at the bottom", 0, x.depth());
      }
      x.feed(9);
      Check.due("depth() up again", 1, x.depth());
    }
  }

  /** "It changes nothing: the register, the memory and depth stay as they are." */
  private static void changesNothing() {
    for (int fed = 0; fed <= 40; fed++) {
      for (int asks = 0; asks <= 3; asks++) {
        Pair pair = new Pair("depth() asked " + asks + " times more at " + fed);
        pair.feedNumbered(1, fed);
        for (int i = 0; i < asks; i++) {
          Check.due("depth() asked again", Math.min(fed, 16), pair.x.depth());
        }
        pair.sameState();
        pair.sameMemory();
      }
    }
  }
}
