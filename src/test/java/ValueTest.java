/** Promise 4: value. Above each test stands the sentence that it is for. */
public final class ValueTest {
  public static void main(String[] args) {
    answersTheComplementOfTheRegister();
    allBitsCountSoItMayBeNegative();
    zeroOnAFreshInstance();
    zeroWhenUnfedBackToTheStart();
    zeroWhenFedBackToTheStart();
    changesNothing();
    sameAnswerAnyNumberOfTimes();
    refusedUnfeedLeavesIt();
    Check.end();
  }

  /** "the CRC so far: the bitwise complement of the register, ~register, as a Java int." */
  private static void answersTheComplementOfTheRegister() {
    knownValue("a", 0xE8B7BE43);
    knownValue("abc", 0x352441C2);
    knownValue("123456789", 0xCBF43926);
    knownValue("The quick brown fox jumps over the lazy dog", 0x414FA339);
  }

  private static void knownValue(String text, int due) {
    CrcRewind x = new CrcRewind();
    for (int i = 0; i < text.length(); i++) {
      x.feed(text.charAt(i));
    }
    Check.due("value() of '" + text + "'", due, x.value());
  }

  /** "All 32 bits count, so the answer may be negative." */
  private static void allBitsCountSoItMayBeNegative() {
    int seenSet = 0;
    int seenClear = 0;
    for (int b = 0; b <= 255; b++) {
      CrcRewind x = new CrcRewind();
      x.feed(b);
      Check.due("value() after feed(" + b + ")", CrcInLongs.after(0, b), x.value());
      seenSet |= x.value();
      seenClear |= ~x.value();
    }
    Check.due("bits of value() seen set", -1, seenSet);
    Check.due("bits of value() seen clear", -1, seenClear);
    CrcRewind x = new CrcRewind();
    for (int i = 0; i < 4; i++) {
      x.feed(255);
    }
    Check.due("value() with every bit set", -1, x.value());
  }

  /** "On a fresh instance ... it answers 0." */
  private static void zeroOnAFreshInstance() {
    Check.due("fresh value()", 0, new CrcRewind().value());
  }

  /** "whenever the register is back at -1, it answers 0", by un-feeding. */
  private static void zeroWhenUnfedBackToTheStart() {
    for (int fed = 1; fed <= 16; fed++) {
      CrcRewind x = Counted.fedTo(fed);
      Check.holds("value() of " + fed + " bytes is not 0", x.value() != 0);
      for (int i = 0; i < fed; i++) {
        x.unfeed();
      }
      Check.due("value() with all " + fed + " un-fed", 0, x.value());
    }
  }

  /** The same sentence, by feeding: four bytes that lead the register back to -1. */
  private static void zeroWhenFedBackToTheStart() {
    CrcRewind x = new CrcRewind();
    for (int b : new int[] {0x9D, 0x0A, 0xD9, 0x6D}) {
      x.feed(b);
    }
    Check.due("value() fed back to the start", 0, x.value());
    Check.due("depth() fed back to the start", 4, x.depth());
    x.feed(49);
    Check.due("value() from there on", 0x83DCEFB7, x.value());
    x.unfeed();
    Check.due("value() un-fed to there", 0, x.value());
  }

  /** "It changes nothing: the register, the memory and depth stay as they are". */
  private static void changesNothing() {
    for (int fed = 0; fed <= 40; fed++) {
      for (int asks = 0; asks <= 3; asks++) {
        Pair pair = new Pair("value() asked " + asks + " times more at " + fed);
        pair.feedNumbered(1, fed);
        for (int i = 0; i < asks; i++) {
          pair.x.value();
        }
        pair.sameState();
        pair.sameMemory();
      }
    }
  }

  /** "calling it any number of times gives the same answer until the next feed or unfeed". */
  private static void sameAnswerAnyNumberOfTimes() {
    CrcRewind x = new CrcRewind();
    for (int b = 49; b <= 57; b++) {
      x.feed(b);
    }
    for (int i = 0; i < 100_000; i++) {
      Check.due("value() asked again", 0xCBF43926, x.value());
    }
    x.feed(0);
    Check.holds("value() is another after feed(0)", x.value() != 0xCBF43926);
    x.unfeed();
    Check.due("value() after unfeed()", 0xCBF43926, x.value());
  }

  /** "until the next feed or successful unfeed": one that is refused leaves it. */
  private static void refusedUnfeedLeavesIt() {
    CrcRewind x = Counted.fedTo(20);
    for (int i = 0; i < 16; i++) {
      x.unfeed();
    }
    for (int i = 0; i < 20; i++) {
      Check.due("value() of the first four", 0xB63CFBCD, x.value());
      Check.due("unfeed() of them", -1, x.unfeed());
    }
  }
}
