import java.util.zip.CRC32;

/**
 * What the document asks, told another way: the whole stream is kept, and its CRC is
 * computed anew by the Java library, so no CRC step or rewinding is shared with the class.
 */
final class Model {
  private static final int LONGEST_STREAM = 20_000;

  private final byte[] stream = new byte[LONGEST_STREAM];
  private int length = 0;
  private int depth = 0;

  int feed(int b) {
    stream[length] = (byte) b;
    length++;
    depth = Math.min(depth + 1, 16);
    return depth;
  }

  int unfeed() {
    if (depth == 0) {
      return -1;
    }
    depth--;
    length--;
    return Byte.toUnsignedInt(stream[length]);
  }

  int value() {
    CRC32 crc = new CRC32();
    crc.update(stream, 0, length);
    return (int) crc.getValue();
  }

  int depth() {
    return depth;
  }
}
