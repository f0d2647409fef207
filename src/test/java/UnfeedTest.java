/** Promise 3: unfeed. Above each test stands the sentence that it is for. */
public final class UnfeedTest {
  public static void main(String[] args) {
    takesBackTheNewest();
    atDepthZeroChangesNothing();
    refusedOnAFreshInstance();
    refusedAfterEveryByteIsUnfed();
    refusedAnyNumberOfTimesInARow();
    putsTheRegisterBackExactly();
    theByteBeforeBecomesTheNewest();
    lowersDepthByOne();
    answersAByteOfZeroTo255();
    neverThrows();
    undoesTheFeedJustBefore();
    belowSixteenDepthIsBackAsWell();
    atSixteenTheOldestStaysForgotten();
    documentsTwentyBytes();
    theFirstFourCannotBeTakenBack();
    fedAgainAfterUnfeeding();
    limitAppliesToTheMemoryAtThatMoment();
    othersAreNotAltered();
    neverBringsBackAForgottenByte();
    Check.end();
  }

  /** "int unfeed() takes back the newest remembered byte." */
  private static void takesBackTheNewest() {
    for (int depth = 1; depth <= 16; depth++) {
      CrcRewind x = Counted.fedTo(depth);
      Check.due("unfeed() at depth " + depth, depth, x.unfeed());
    }
  }

  /** "It answers -1 and changes nothing: the register, the memory and depth stay." */
  private static void atDepthZeroChangesNothing() {
    CrcRewind x = Counted.fedTo(17);
    for (int i = 0; i < 16; i++) {
      x.unfeed();
    }
    Check.due("value() at depth 0", 0xA505DF1B, x.value());
    Check.due("unfeed() at depth 0", -1, x.unfeed());
    Check.due("value() after it", 0xA505DF1B, x.value());
    Check.due("depth() after it", 0, x.depth());
    for (int i = 1; i <= 16; i++) {
      Check.due("feed no. " + i + " after it", i, x.feed(100 + i));
    }
    Counted.dueBytes("after a refused unfeed()", x, 116, 101);
    Check.due("value() with these un-fed", 0xA505DF1B, x.value());
  }

  /** "This holds on a fresh instance". */
  private static void refusedOnAFreshInstance() {
    CrcRewind x = new CrcRewind();
    Check.due("fresh unfeed()", -1, x.unfeed());
    Check.due("value() after it", 0, x.value());
    Check.due("depth() after it", 0, x.depth());
    Check.due("feed(5) after it", 1, x.feed(5));
    Counted.dueBytes("after a fresh unfeed()", x, 5, 5);
  }

  /** "after every remembered byte has been un-fed". */
  private static void refusedAfterEveryByteIsUnfed() {
    for (int fed = 1; fed <= 40; fed++) {
      Pair pair = new Pair(fed + " bytes, all un-fed");
      pair.feedNumbered(1, fed);
      pair.unfeed(Math.min(fed, 16));
      Check.due("unfeed() with all un-fed of " + fed, -1, pair.x.unfeed());
      pair.sameState();
      pair.feed(77);
      pair.sameMemory();
    }
  }

  /** "and any number of times in a row." */
  private static void refusedAnyNumberOfTimesInARow() {
    for (int fed = 0; fed <= 20; fed += 10) {
      Pair pair = new Pair("refused often after " + fed);
      pair.feedNumbered(1, fed);
      pair.sameMemory();
      for (int i = 0; i < 100_000; i++) {
        Check.due("unfeed() refused no. " + i, -1, pair.x.unfeed());
      }
      pair.sameState();
      pair.feedNumbered(1, 17);
      pair.sameMemory();
    }
  }

  /** "sets the register to exactly the value it had just before the newest byte was fed". */
  private static void putsTheRegisterBackExactly() {
    for (int fed = 1; fed <= 40; fed++) {
      CrcRewind x = new CrcRewind();
      int[] valueBefore = new int[fed];
      for (int i = 0; i < fed; i++) {
        valueBefore[i] = x.value();
        x.feed(i * 11);
      }
      for (int i = fed - 1; i >= Math.max(0, fed - 16); i--) {
        x.unfeed();
        Check.due("value() before byte " + i + " of " + fed, valueBefore[i], x.value());
      }
    }
  }

  /** "forgets that byte, so the byte fed before it (if still remembered) becomes the newest". */
  private static void theByteBeforeBecomesTheNewest() {
    for (int fed = 1; fed <= 40; fed++) {
      Counted.dueBytes("after " + fed + " bytes", Counted.fedTo(fed), fed, Math.max(1, fed - 15));
    }
  }

  /** "lowers depth by 1", from each depth of 16 to 1. */
  private static void lowersDepthByOne() {
    for (int fed = 16; fed <= 20; fed++) {
      CrcRewind x = Counted.fedTo(fed);
      for (int due = 15; due >= 0; due--) {
        x.unfeed();
        Check.due("depth() going down from " + fed, due, x.depth());
      }
    }
  }

  /** "answers that byte as a value in 0..255 (the low 8 bits of the argument)". */
  private static void answersAByteOfZeroTo255() {
    int[] fed = {
      -1, 255, Integer.MAX_VALUE, 0, 256, -256, Integer.MIN_VALUE, 128, -128, 127, -129, 511,
    };
    int[] due = {255, 255, 255, 0, 0, 0, 0, 128, 128, 127, 127, 255};
    CrcRewind x = new CrcRewind();
    for (int b : fed) {
      x.feed(b);
    }
    for (int i = fed.length - 1; i >= 0; i--) {
      Check.due("unfeed() of " + fed[i], due[i], x.unfeed());
    }
    Check.due("unfeed() of nothing", -1, x.unfeed());
  }

  /** "It never throws.", whatever the depth and however the memory was filled. */
  private static void neverThrows() {
    for (int fed = 0; fed <= 40; fed++) {
      for (int back = 0; back <= 20; back++) {
        CrcRewind x = Counted.fedTo(fed);
        int remembered = Math.min(fed, 16);
        for (int i = 0; i < back; i++) {
          int due = i < remembered ? fed - i : -1;
          Check.due("unfeed() no. " + i + " after " + fed, due, x.unfeed());
        }
        Check.due("depth() after " + fed, Math.max(0, remembered - back), x.depth());
      }
    }
  }

  /** "after feed(b), unfeed() answers b & 255, and value() is again what it was before". */
  private static void undoesTheFeedJustBefore() {
    for (int before = 0; before <= 20; before++) {
      for (int b = -300; b <= 300; b++) {
        CrcRewind x = Counted.fedTo(before);
        int value = x.value();
        x.feed(b);
        Check.due("unfeed() of " + b + " at " + before, b & 255, x.unfeed());
        Check.due("value() after unfeed() of " + b + " at " + before, value, x.value());
      }
    }
  }

  /** "If depth was below 16 before that feed, depth is also back to what it was". */
  private static void belowSixteenDepthIsBackAsWell() {
    for (int depth = 0; depth <= 15; depth++) {
      CrcRewind x = Counted.fedTo(depth);
      for (int i = 0; i < 40; i++) {
        x.feed(99);
        x.unfeed();
        Check.due("depth() back at " + depth, depth, x.depth());
      }
      Counted.dueBytes("under the fed and un-fed, depth " + depth, x, depth, 1);
    }
  }

  /** "if depth was 16, the oldest byte stays forgotten and depth ends at 15." */
  private static void atSixteenTheOldestStaysForgotten() {
    CrcRewind x = Counted.fedTo(16);
    Check.due("feed(17) at depth 16", 16, x.feed(17));
    Check.due("unfeed() of it", 17, x.unfeed());
    Check.due("depth() after that", 15, x.depth());
    Check.due("feed(18) at depth 15", 16, x.feed(18));
    Check.due("unfeed() of it", 18, x.unfeed());
    Check.due("depth() after that", 15, x.depth());
    Counted.dueBytes("with byte 1 forgotten", x, 16, 2);
    Check.due("value() of byte 1 alone", 0xA505DF1B, x.value());
  }

  /** "after feeding 20 bytes ... sixteen calls ... a seventeenth call answers -1 ..." */
  private static void documentsTwentyBytes() {
    CrcRewind x = new CrcRewind();
    int valueAfterFour = 0;
    for (int i = 1; i <= 20; i++) {
      x.feed(i * 11);
      valueAfterFour = i == 4 ? x.value() : valueAfterFour;
    }
    Check.due("depth() after 20 bytes", 16, x.depth());
    for (int i = 20; i >= 5; i--) {
      Check.due("unfeed() of byte " + i, i * 11, x.unfeed());
    }
    Check.due("value() after the sixteenth unfeed()", valueAfterFour, x.value());
    Check.due("depth() after the sixteenth unfeed()", 0, x.depth());
    Check.due("seventeenth unfeed()", -1, x.unfeed());
    Check.due("value() after it", valueAfterFour, x.value());
    Check.due("depth() after it", 0, x.depth());
  }

  /** "The first four bytes cannot be taken back." */
  private static void theFirstFourCannotBeTakenBack() {
    CrcRewind x = Counted.fedTo(20);
    for (int i = 0; i < 40; i++) {
      int answer = x.unfeed();
      Check.holds("none of the first four at " + i, answer == -1 || answer > 4);
    }
    Check.due("value() of the first four", 0xB63CFBCD, x.value());
  }

  /** "Bytes may be fed again after un-feeding; they are remembered and counted the same way". */
  private static void fedAgainAfterUnfeeding() {
    for (int back = 1; back <= 18; back++) {
      for (int again = 1; again <= 18; again++) {
        Pair pair = new Pair(back + " back, " + again + " again");
        pair.feedNumbered(1, 20);
        pair.unfeed(back);
        pair.feedNumbered(101, 100 + again);
        pair.sameMemory();
      }
    }
  }

  /** "and the limit of 16 applies to the memory as it is at that moment." */
  private static void limitAppliesToTheMemoryAtThatMoment() {
    for (int back = 1; back <= 16; back++) {
      Counted.dueBytes("full again after " + back, backAndFullAgain(back), 20, 5);
      CrcRewind beyond = backAndFullAgain(back);
      Check.due("feed(21) beyond the limit", 16, beyond.feed(21));
      Counted.dueBytes("one beyond after " + back, beyond, 21, 6);
    }
  }

  private static CrcRewind backAndFullAgain(int back) {
    CrcRewind x = Counted.fedTo(20);
    for (int i = 0; i < back; i++) {
      x.unfeed();
    }
    for (int b = 21 - back; b <= 20; b++) {
      Check.due("feed(" + b + ") again", b - 4, x.feed(b));
    }
    return x;
  }

  /** "unfeed never alters any remembered byte other than the one it forgets". */
  private static void othersAreNotAltered() {
    for (int back = 1; back <= 16; back++) {
      Pair pair = Pair.atDepth(16);
      for (int i = 0; i < back; i++) {
        pair.unfeed();
        pair.feed(200);
        pair.unfeed();
      }
      pair.sameMemory();
    }
  }

  /** "and never brings back a byte that was forgotten because the memory was full." */
  private static void neverBringsBackAForgottenByte() {
    for (int beyond = 1; beyond <= 20; beyond++) {
      CrcRewind x = Counted.fedTo(16 + beyond);
      for (int i = 0; i < beyond; i++) {
        x.unfeed();
      }
      int left = Math.max(0, 16 - beyond);
      Check.due("depth() with " + beyond + " un-fed", left, x.depth());
      int newest = left == 0 ? beyond : 16;
      Counted.dueBytes(beyond + " forgotten", x, newest, beyond + 1);
    }
  }
}
