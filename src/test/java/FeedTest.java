/** Promise 2: feed. */
public final class FeedTest {
  public static void main(String[] args) {
    documentsExample();
    everyByteOnce();
    onlyLowEightBitsCount();
    edgesOfInt();
    answersGrowToSixteenAndStay();
    atTheLimitOnlyTheOldestIsForgotten();
    zeroRegisterStaysZeroOnZeroByte();
    aMillionBytes();
    Check.end();
  }

  private static void documentsExample() {
    CrcRewind x = new CrcRewind();
    for (int b = 49; b <= 57; b++) {
      Check.due("feed(" + b + ")", b - 48, x.feed(b));
    }
    Check.due("value() of 123456789", -873187034, x.value());
    Check.due("depth() of 123456789", 9, x.depth());
  }

  private static void everyByteOnce() {
    for (int b = 0; b <= 255; b++) {
      CrcRewind x = new CrcRewind();
      Model model = new Model();
      Check.due("feed(" + b + ")", model.feed(b), x.feed(b));
      model.compareState("after feed(" + b + ")", x);
      Check.due("unfeed() after feed(" + b + ")", b, x.unfeed());
    }
  }

  private static void onlyLowEightBitsCount() {
    for (int b : new int[] {65, 321, -191, 65 | 0x7FFFFF00, 65 | 0x80000000}) {
      CrcRewind x = new CrcRewind();
      x.feed(200);
      Check.due("feed(" + b + ")", 2, x.feed(b));
      Check.due("value() after feed(" + b + ")", crcOf(200, 65), x.value());
      Check.due("unfeed() after feed(" + b + ")", 65, x.unfeed());
    }
    for (int bit = 8; bit < 32; bit++) {
      CrcRewind x = new CrcRewind();
      x.feed(200 | 1 << bit);
      Check.due("value() with bit " + bit + " set", crcOf(200), x.value());
      Check.due("unfeed() with bit " + bit + " set", 200, x.unfeed());
    }
  }

  private static void edgesOfInt() {
    int[] arguments = {
      Integer.MIN_VALUE, Integer.MAX_VALUE, Integer.MIN_VALUE + 1, -1, -2, -128, -129, -255, -256,
      -257, 0, 1, 127, 128, 255, 256, 257, 32767, 32768, -32768, -32769, 65535, 65536,
    };
    CrcRewind together = new CrcRewind();
    Model model = new Model();
    for (int b : arguments) {
      CrcRewind alone = new CrcRewind();
      Check.due("feed(" + b + ")", 1, alone.feed(b));
      Check.due("value() after feed(" + b + ")", crcOf(b), alone.value());
      Check.due("unfeed() after feed(" + b + ")", b & 255, alone.unfeed());
      Check.due("feed(" + b + ") among others", model.feed(b), together.feed(b));
      model.compareState("after feed(" + b + ") among others", together);
    }
  }

  private static void answersGrowToSixteenAndStay() {
    CrcRewind x = new CrcRewind();
    for (int i = 1; i <= 100; i++) {
      Check.due("feed no. " + i, Math.min(i, 16), x.feed(i));
      Check.due("depth() after feed no. " + i, Math.min(i, 16), x.depth());
    }
  }

  private static void atTheLimitOnlyTheOldestIsForgotten() {
    for (int fed = 14; fed <= 40; fed++) {
      CrcRewind x = new CrcRewind();
      for (int i = 1; i <= fed; i++) {
        x.feed(i);
      }
      int remembered = Math.min(fed, 16);
      for (int i = 0; i < remembered; i++) {
        Check.due("unfeed() no. " + i + " after " + fed + " bytes", fed - i, x.unfeed());
      }
      Check.due("unfeed() past the memory after " + fed + " bytes", -1, x.unfeed());
    }
  }

  private static void zeroRegisterStaysZeroOnZeroByte() {
    CrcRewind x = new CrcRewind();
    for (int i = 0; i < 4; i++) {
      x.feed(255);
    }
    Check.due("value() with the register at 0", -1, x.value());
    Check.due("feed(0) with the register at 0", 5, x.feed(0));
    Check.due("value() after it", -1, x.value());
    Check.due("unfeed() of it", 0, x.unfeed());
    Check.due("depth() after that", 4, x.depth());
  }

  private static void aMillionBytes() {
    CrcRewind x = new CrcRewind();
    java.util.zip.CRC32 crc = new java.util.zip.CRC32();
    int b = 1;
    for (int i = 0; i < 1_000_000; i++) {
      b = b * 1103515245 + 12345;
      crc.update(b >> 16);
      x.feed(b >> 16);
    }
    Check.due("value() of a million bytes", (int) crc.getValue(), x.value());
    Check.due("depth() of a million bytes", 16, x.depth());
  }

  private static int crcOf(int... bytes) {
    Model model = new Model();
    for (int b : bytes) {
      model.feed(b);
    }
    return model.value();
  }
}
