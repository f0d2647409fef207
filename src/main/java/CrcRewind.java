/** A CRC-32 over bytes fed one at a time, whose last sixteen bytes can be taken back. */
public final class CrcRewind {
  private static final int POLYNOMIAL = 0xEDB88320;
  private static final int START = -1;
  private static final int LIMIT = 16;
  private static final int BYTE_MASK = 255;
  private static final int BITS_IN_BYTE = 8;
  private static final int NOTHING_REMEMBERED = -1;

  // Slots 0 to depth - 1 are in use, oldest first.
  private final int[] bytes = new int[LIMIT];
  // The register as it was just before the byte in the same slot: kept, so that
  // un-feeding needs no backward CRC step that would have to agree with the forward one.
  private final int[] registersBefore = new int[LIMIT];
  private int register;
  private int depth;

  public CrcRewind() {
    register = START;
    depth = 0;
  }

  /** Feeds the low 8 bits of b; answers the depth after that, 1 to 16. */
  public int feed(int b) {
    int fed = b & BYTE_MASK;
    if (depth >= LIMIT) {
      forgetOldest();
    }
    bytes[depth] = fed;
    registersBefore[depth] = register;
    depth = depth + 1;
    register = registerAfter(register, fed);
    return depth;
  }

  /** Takes back the newest remembered byte and answers it, or answers -1 if there is none. */
  public int unfeed() {
    if (depth <= 0) {
      return NOTHING_REMEMBERED;
    }
    depth = depth - 1;
    register = registersBefore[depth];
    return bytes[depth];
  }

  /** Answers the CRC of the bytes fed and not taken back. */
  public int value() {
    return ~register;
  }

  /** Answers how many bytes can be taken back now, 0 to 16. */
  public int depth() {
    return depth;
  }

  // Moving every byte down one slot, rather than going round in a ring, keeps
  // depth the only thing that says which slots are in use.
  private void forgetOldest() {
    for (int slot = 1; slot < LIMIT; slot++) {
      bytes[slot - 1] = bytes[slot];
      registersBefore[slot - 1] = registersBefore[slot];
    }
    depth = LIMIT - 1;
  }

  private static int registerAfter(int before, int fed) {
    int r = before ^ fed;
    for (int round = 0; round < BITS_IN_BYTE; round++) {
      boolean lowestBitSet = (r & 1) == 1;
      r = r >>> 1;
      if (lowestBitSet) {
        r = r ^ POLYNOMIAL;
      }
    }
    return r;
  }
}
