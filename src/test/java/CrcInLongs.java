/** The register step in longs that are never negative, halved instead of shifted. */
final class CrcInLongs {
  private static final long ALL_ONES = 0xFFFFFFFFL;
  private static final long POLYNOMIAL = 0xEDB88320L;

  private CrcInLongs() {}

  /** The value that is due after b is fed, told from the value before. */
  static int after(int valueBefore, int b) {
    long r = ALL_ONES - Integer.toUnsignedLong(valueBefore);
    r ^= Math.floorMod(b, 256);
    for (int round = 0; round < 8; round++) {
      r = r % 2 == 1 ? r / 2 ^ POLYNOMIAL : r / 2;
    }
    return (int) (ALL_ONES - r);
  }
}
