import java.util.function.BiConsumer;
import java.util.zip.CRC32;

/**
 * What the document asks, told another way: the whole stream is kept, and its CRC is
 * computed anew by the Java library, so no CRC step or rewinding is shared with the class.
 */
final class Model {
  private static final int LONGEST_STREAM = 20_000;

  private final byte[] stream = new byte[LONGEST_STREAM];
  private int length = 0;
  private int depth = 0;

  int feed(int b) {
    stream[length] = (byte) b;
    length++;
    depth = Math.min(depth + 1, 16);
    return depth;
  }

  int unfeed() {
    if (depth == 0) {
      return -1;
    }
    depth--;
    length--;
    return Byte.toUnsignedInt(stream[length]);
  }

  int value() {
    CRC32 crc = new CRC32();
    crc.update(stream, 0, length);
    return (int) crc.getValue();
  }

  int depth() {
    return depth;
  }

  /** Checks value and depth, and once more, since asking must change nothing. */
  void compareState(String where, CrcRewind x) {
    Check.due(where + ": value()", value(), x.value());
    Check.due(where + ": depth()", depth(), x.depth());
    Check.due(where + ": value() again", value(), x.value());
    Check.due(where + ": depth() again", depth(), x.depth());
  }

  /** Feeds past the limit, then un-feeds past the bottom, and asks after each call. */
  static void walkUpAndDown(BiConsumer<CrcRewind, Model> ask) {
    CrcRewind x = new CrcRewind();
    Model model = new Model();
    for (int i = 0; i < 40; i++) {
      Check.due("feed(" + i + ")", model.feed(i), x.feed(i));
      ask.accept(x, model);
    }
    for (int i = 0; i < 20; i++) {
      Check.due("unfeed() no. " + i, model.unfeed(), x.unfeed());
      ask.accept(x, model);
    }
  }
}
