import java.util.zip.CRC32;

/** Promise 2: feed. Above each test stands the sentence that it is for. */
public final class FeedTest {
  private static final int[] EDGES = {
    Integer.MIN_VALUE, Integer.MIN_VALUE + 1, -65537, -65536, -32769, -32768, -257, -256, -255,
    -129, -128, -127, -2, -1, 0, 1, 2, 127, 128, 129, 254, 255, 256, 257, 32767, 32768, 65535,
    65536, Integer.MAX_VALUE - 1, Integer.MAX_VALUE,
  };

  public static void main(String[] args) {
    takesEveryInt();
    takesIntsFromTheWholeRange();
    onlyTheLowEightBitsCount();
    neverRefusesNorThrows();
    roundWithTheLowestBitSet();
    roundWithTheLowestBitClear();
    zeroEntersAtTheTopBit();
    signBitIsJustABit();
    byteIsRememberedAsTheNewest();
    belowSixteenNothingIsForgotten();
    atSixteenTheOldestIsForgotten();
    forgottenByteIsNeverUnfed();
    answersTheDepthAfterTheCall();
    otherRememberedBytesStay();
    argumentsThatAgreeHaveTheSameEffect();
    documentsExample();
    aMillionBytes();
    Check.end();
  }

  /** "takes every int value of b (negative, zero, positive, MIN_VALUE, MAX_VALUE, anything)". */
  private static void takesEveryInt() {
    Pair together = new Pair("among others");
    for (int b : EDGES) {
      Pair alone = new Pair("alone");
      alone.feed(b);
      alone.sameMemory();
      together.feed(b);
    }
    together.sameMemory();
  }

  /** The same sentence, for its "anything". */
  private static void takesIntsFromTheWholeRange() {
    CRC32 crc = new CRC32();
    CrcRewind x = new CrcRewind();
    for (long b = Integer.MIN_VALUE; b <= Integer.MAX_VALUE; b += 99_991) {
      crc.update((int) b);
      x.feed((int) b);
      Check.due("value() after feed(" + b + ")", (int) crc.getValue(), x.value());
    }
  }

  /** "Only the low 8 bits of b count, that is b & 255, a value in 0..255." */
  private static void onlyTheLowEightBitsCount() {
    for (int b = 0; b <= 255; b++) {
      for (int bit = 8; bit < 32; bit++) {
        CrcRewind x = new CrcRewind();
        int argument = b | 1 << bit;
        Check.due("feed(" + argument + ")", 1, x.feed(argument));
        Check.due("value() after feed(" + argument + ")", crcOf(b), x.value());
        Check.due("unfeed() after feed(" + argument + ")", b, x.unfeed());
      }
    }
  }

  /** "It never refuses and never throws." */
  private static void neverRefusesNorThrows() {
    for (int before = 0; before <= 40; before++) {
      for (int b : EDGES) {
        CrcRewind x = new CrcRewind();
        for (int i = 0; i < before; i++) {
          x.feed(b);
        }
        int value = x.value();
        int answer = x.feed(b);
        Check.holds("feed(" + b + ") is taken after " + before, answer >= 1 && answer <= 16);
        Check.due("value() after " + before, CrcInLongs.after(value, b), x.value());
      }
    }
  }

  /** "if the lowest bit of r is 1, r becomes (r >>> 1) ^ 0xEDB88320". */
  private static void roundWithTheLowestBitSet() {
    CrcRewind last = withRegisterZero();
    last.feed(128);
    Check.due("value() with the last round's bit set", ~0xEDB88320, last.value());
    CrcRewind first = withRegisterZero();
    first.feed(1);
    Check.due("value() with the first round's bit set", ~0x77073096, first.value());
  }

  /** "otherwise r becomes r >>> 1". */
  private static void roundWithTheLowestBitClear() {
    CrcRewind x = withRegisterZero();
    Check.due("feed(0) with the register at 0", 5, x.feed(0));
    Check.due("value() after it", -1, x.value());
    Check.due("unfeed() of it", 0, x.unfeed());
    Check.due("value() after that", -1, x.value());
  }

  /** ">>> is Java's unsigned (logical) right shift, so a zero enters at the top bit every time". */
  private static void zeroEntersAtTheTopBit() {
    CrcRewind x = new CrcRewind();
    x.feed(255);
    Check.due("value() after eight shifts alone", 0xFF000000, x.value());
    x.feed(255);
    Check.due("value() after sixteen shifts alone", 0xFFFF0000, x.value());
  }

  /** "the sign bit is just one of the 32 bits": the same sums without any sign agree. */
  private static void signBitIsJustABit() {
    CrcRewind x = new CrcRewind();
    int negative = 0;
    for (int i = 0; i < 1000; i++) {
      int before = x.value();
      negative += before < 0 ? 1 : 0;
      x.feed(i * i);
      Check.due("value() in turn " + i, CrcInLongs.after(before, i * i), x.value());
    }
    Check.holds("both signs were seen", negative > 100 && negative < 900);
  }

  /** "The byte b & 255 is remembered as the newest byte." */
  private static void byteIsRememberedAsTheNewest() {
    for (int before = 0; before <= 20; before++) {
      for (int b = 0; b <= 255; b++) {
        CrcRewind x = new CrcRewind();
        for (int i = 0; i < before; i++) {
          x.feed(b + 1);
        }
        x.feed(b - 256);
        Check.due("unfeed() of " + b + " after " + before, b, x.unfeed());
      }
    }
  }

  /** "If depth was 0 through 15 before the call, nothing is forgotten and depth grows by 1." */
  private static void belowSixteenNothingIsForgotten() {
    for (int depth = 0; depth <= 15; depth++) {
      CrcRewind x = Counted.fedTo(depth);
      x.feed(100);
      Check.due("depth() from " + depth, depth + 1, x.depth());
      Check.due("unfeed() from " + depth, 100, x.unfeed());
      Counted.dueBytes("from depth " + depth, x, depth, 1);
    }
    fromDepths(0, 15);
  }

  /** "If depth was already 16, the oldest is forgotten for good, and depth stays 16." */
  private static void atSixteenTheOldestIsForgotten() {
    for (int beyond = 1; beyond <= 40; beyond++) {
      CrcRewind x = Counted.fedTo(16);
      for (int i = 1; i <= beyond; i++) {
        Check.due("feed no. " + (16 + i), 16, x.feed(16 + i));
        Check.due("depth() after no. " + (16 + i), 16, x.depth());
      }
      Counted.dueBytes(beyond + " beyond sixteen", x, 16 + beyond, beyond + 1);
    }
    fromDepths(16, 16);
  }

  /** "The forgotten byte can never be un-fed afterwards." */
  private static void forgottenByteIsNeverUnfed() {
    for (int back = 0; back <= 17; back++) {
      CrcRewind x = new CrcRewind();
      x.feed(200);
      for (int i = 1; i <= 16; i++) {
        x.feed(i);
      }
      for (int round = 0; round < 40; round++) {
        for (int i = 0; i < back; i++) {
          Check.holds("200 stays forgotten, round " + round, x.unfeed() != 200);
        }
        for (int i = 0; i < round % 18; i++) {
          x.feed(i);
        }
      }
      for (int i = 0; i < 17; i++) {
        Check.holds("200 stays forgotten at the end", x.unfeed() != 200);
      }
    }
  }

  /** "It is the old depth plus 1 when the old depth was below 16, and 16 when already 16." */
  private static void answersTheDepthAfterTheCall() {
    CrcRewind x = new CrcRewind();
    for (int i = 1; i <= 100; i++) {
      Check.due("feed no. " + i, Math.min(i, 16), x.feed(i));
    }
    for (int back = 1; back <= 16; back++) {
      for (int i = 0; i < back; i++) {
        x.unfeed();
      }
      for (int i = 1; i <= back; i++) {
        Check.due("feed no. " + i + " after going back", 16 - back + i, x.feed(i));
      }
      Check.due("feed when full again", 16, x.feed(0));
    }
  }

  /** "Feeding never alters the other remembered bytes except forgetting the single oldest." */
  private static void otherRememberedBytesStay() {
    for (int depth = 0; depth <= 16; depth++) {
      for (int b : EDGES) {
        CrcRewind x = Counted.fedTo(depth);
        x.feed(b);
        x.unfeed();
        Counted.dueBytes("under feed(" + b + ") at depth " + depth, x, depth, depth == 16 ? 2 : 1);
      }
    }
  }

  /**
   * "Two values of b that agree in their low 8 bits (for example 65, 321 and -191) have exactly
   * the same effect on the register, the memory and the answer."
   */
  private static void argumentsThatAgreeHaveTheSameEffect() {
    for (int depth = 0; depth <= 16; depth++) {
      for (int b : new int[] {65, 321, -191, 65 | 0x7FFFFF00, 65 | 0x80000000}) {
        CrcRewind plain = Counted.fedTo(depth);
        CrcRewind x = Counted.fedTo(depth);
        Check.due("feed(" + b + ") at depth " + depth, plain.feed(65), x.feed(b));
        Check.due("value() after feed(" + b + ")", plain.value(), x.value());
        Check.due("unfeed() after feed(" + b + ")", 65, x.unfeed());
        Counted.dueBytes("under feed(" + b + ") at depth " + depth, x, depth, depth == 16 ? 2 : 1);
      }
    }
  }

  /** "feeding the nine bytes of 123456789 answers 1, 2, ..., 9 in turn, and afterwards ..." */
  private static void documentsExample() {
    CrcRewind x = new CrcRewind();
    for (int b = 49; b <= 57; b++) {
      Check.due("feed(" + b + ")", b - 48, x.feed(b));
    }
    Check.due("value() of 123456789", -873187034, x.value());
    Check.due("depth() of 123456789", 9, x.depth());
  }

  /** No sentence's own: the register and the memory after very many bytes. */
  private static void aMillionBytes() {
    CrcRewind x = new CrcRewind();
    CRC32 crc = new CRC32();
    for (int i = 1; i <= 1_000_000; i++) {
      crc.update(i);
      x.feed(i);
    }
    Check.due("value() of a million bytes", (int) crc.getValue(), x.value());
    Check.due("depth() of a million bytes", 16, x.depth());
    for (int i = 1_000_000; i > 1_000_000 - 16; i--) {
      Check.due("unfeed() of byte " + i, i & 255, x.unfeed());
    }
    Check.due("unfeed() below them", -1, x.unfeed());
  }

  /** Feeds one byte at each of these depths, with bytes forgotten long before. */
  private static void fromDepths(int first, int last) {
    for (int depth = first; depth <= last; depth++) {
      Pair pair = Pair.atDepthAfterForgetting(depth);
      pair.feed(100);
      pair.sameMemory();
    }
  }

  private static CrcRewind withRegisterZero() {
    CrcRewind x = new CrcRewind();
    for (int i = 0; i < 4; i++) {
      x.feed(255);
    }
    Check.due("value() with the register at 0", -1, x.value());
    return x;
  }

  private static int crcOf(int b) {
    CRC32 crc = new CRC32();
    crc.update(b);
    return (int) crc.getValue();
  }
}
