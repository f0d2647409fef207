/** Instances fed with 1, 2, 3, ...: each byte that is taken back tells where it stood. */
final class Counted {
  private Counted() {}

  /** An instance fed with the bytes 1, 2, ..., last. */
  static CrcRewind fedTo(int last) {
    CrcRewind x = new CrcRewind();
    for (int b = 1; b <= last; b++) {
      x.feed(b);
    }
    return x;
  }

  /** Un-feeds all: the bytes newest, newest - 1, ..., oldest and nothing more are due. */
  static void dueBytes(String where, CrcRewind x, int newest, int oldest) {
    for (int b = newest; b >= oldest; b--) {
      Check.due("unfeed() of " + b + ", " + where, b, x.unfeed());
    }
    Check.due("unfeed() below all, " + where, -1, x.unfeed());
  }
}
