/** Promise 4: value. */
public final class ValueTest {
  public static void main(String[] args) {
    knownValues();
    everyBitCounts();
    zeroWheneverTheRegisterIsBackAtAllOnes();
    changesNothing();
    unsuccessfulUnfeedLeavesIt();
    Check.end();
  }

  private static void knownValues() {
    knownValue("a", 0xE8B7BE43);
    knownValue("abc", 0x352441C2);
    knownValue("123456789", 0xCBF43926);
    knownValue("The quick brown fox jumps over the lazy dog", 0x414FA339);
  }

  private static void knownValue(String text, int due) {
    CrcRewind x = new CrcRewind();
    for (int i = 0; i < text.length(); i++) {
      x.feed(text.charAt(i));
    }
    Check.due("value() of '" + text + "'", due, x.value());
  }

  private static void everyBitCounts() {
    int seenSet = 0;
    int seenClear = 0;
    for (int b = 0; b <= 255; b++) {
      CrcRewind x = new CrcRewind();
      x.feed(b);
      seenSet |= x.value();
      seenClear |= ~x.value();
    }
    Check.due("bits of value() seen set", -1, seenSet);
    Check.due("bits of value() seen clear", -1, seenClear);
  }

  private static void zeroWheneverTheRegisterIsBackAtAllOnes() {
    CrcRewind x = new CrcRewind();
    int[] backToStart = {0x9D, 0x0A, 0xD9, 0x6D};
    for (int b : backToStart) {
      x.feed(b);
    }
    Check.due("value() fed back to the start", 0, x.value());
    Check.due("depth() fed back to the start", 4, x.depth());
    x.feed(49);
    Check.due("value() from there on", 0x83DCEFB7, x.value());
    x.unfeed();
    Check.due("value() un-fed to there", 0, x.value());
    for (int i = 3; i >= 0; i--) {
      Check.due("unfeed()", backToStart[i], x.unfeed());
    }
    Check.due("value() with all un-fed", 0, x.value());
  }

  private static void changesNothing() {
    Model.walkUpAndDown(ValueTest::askOften);
  }

  private static void askOften(CrcRewind asked, Model model) {
    for (int i = 0; i < 20; i++) {
      Check.due("value(), asked again", model.value(), asked.value());
    }
    Check.due("depth() after value()", model.depth(), asked.depth());
  }

  private static void unsuccessfulUnfeedLeavesIt() {
    CrcRewind x = new CrcRewind();
    for (int i = 0; i < 17; i++) {
      x.feed(49);
    }
    for (int i = 0; i < 16; i++) {
      x.unfeed();
    }
    Check.due("value() with one byte left for good", 0x83DCEFB7, x.value());
    Check.due("unfeed()", -1, x.unfeed());
    Check.due("value() after the unfeed()", 0x83DCEFB7, x.value());
  }
}
