/** An instance and the model, led through the same calls; every answer is compared. */
final class Pair {
  final CrcRewind x = new CrcRewind();
  private final Model model = new Model();
  private final String where;

  Pair(String where) {
    this.where = where;
  }

  void feed(int b) {
    Check.due(where + ": feed(" + b + ")", model.feed(b), x.feed(b));
    sameState();
  }

  /** Feeds the bytes numbered from first to last. */
  void feedNumbered(int first, int last) {
    for (int number = first; number <= last; number++) {
      feed(numbered(number));
    }
  }

  void unfeed() {
    Check.due(where + ": unfeed()", model.unfeed(), x.unfeed());
    sameState();
  }

  void unfeed(int times) {
    for (int i = 0; i < times; i++) {
      unfeed();
    }
  }

  void sameState() {
    Check.due(where + ": value()", model.value(), x.value());
    Check.due(where + ": depth()", model.depth(), x.depth());
  }

  /** Un-feeds past the bottom, since nothing else shows what is remembered. */
  void sameMemory() {
    unfeed(17);
  }

  /** Bytes that differ from each other while fewer than 256 of them are in use. */
  static int numbered(int number) {
    return number * 37 + 11 & 255;
  }

  /** A pair at that depth, with nothing forgotten before. */
  static Pair atDepth(int depth) {
    Pair pair = new Pair("from depth " + depth);
    pair.feedNumbered(1, depth);
    return pair;
  }

  /** A pair at that depth, with four bytes before it that can't be taken back. */
  static Pair atDepthAfterForgetting(int depth) {
    Pair pair = new Pair("from 20 bytes and back to depth " + depth);
    pair.feedNumbered(1, 20);
    pair.unfeed(16 - depth);
    return pair;
  }
}
