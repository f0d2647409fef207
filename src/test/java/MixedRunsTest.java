/** Promises 1 to 5 together: runs of mixed calls, compared with the model after each call. */
public final class MixedRunsTest {
  private static final int UNFEED = 3;
  private static final int[] FED = {0, -1, 0x1A5};

  public static void main(String[] args) {
    for (int start : new int[] {0, 1, 2, 14, 15, 16, 17, 20, 33}) {
      everyShortRun(start, 5);
    }
    for (int weight = 0; weight <= 10; weight++) {
      longRun(weight, 3000);
    }
    Check.end();
  }

  /** Every run of so many calls out of three feeds and unfeed, each on a new object. */
  private static void everyShortRun(int start, int calls) {
    for (int run = 0; run < 1 << 2 * calls; run++) {
      CrcRewind x = new CrcRewind();
      Model model = new Model();
      for (int i = 0; i < start; i++) {
        x.feed(i * 37);
        model.feed(i * 37);
      }
      for (int i = 0; i < calls; i++) {
        int choice = run >> 2 * i & 3;
        oneCall("start " + start + ", run " + run + ", call " + i, choice, x, model);
      }
      unfeedAll("start " + start + ", run " + run, x, model);
    }
  }

  private static void oneCall(String where, int choice, CrcRewind x, Model model) {
    if (choice == UNFEED) {
      Check.due(where + ": unfeed()", model.unfeed(), x.unfeed());
    } else {
      int b = FED[choice];
      Check.due(where + ": feed(" + b + ")", model.feed(b), x.feed(b));
    }
    model.compareState(where, x);
  }

  private static void unfeedAll(String where, CrcRewind x, Model model) {
    for (int i = 0; i < 17; i++) {
      Check.due(where + ": closing unfeed() no. " + i, model.unfeed(), x.unfeed());
    }
    model.compareState(where + ", un-fed", x);
  }

  /** A fixed run in which about weight of ten calls are feeds; the same at every start. */
  private static void longRun(int weight, int calls) {
    CrcRewind x = new CrcRewind();
    Model model = new Model();
    int state = 88172645 + weight;
    for (int i = 0; i < calls; i++) {
      state = scrambled(state);
      String where = "weight " + weight + ", call " + i;
      if (Integer.remainderUnsigned(state, 10) < weight) {
        int b = scrambled(state ^ 0x5DEECE66);
        Check.due(where + ": feed(" + b + ")", model.feed(b), x.feed(b));
      } else {
        Check.due(where + ": unfeed()", model.unfeed(), x.unfeed());
      }
      model.compareState(where, x);
    }
    unfeedAll("weight " + weight, x, model);
  }

  private static int scrambled(int state) {
    int s = state;
    s ^= s << 13;
    s ^= s >>> 17;
    s ^= s << 5;
    return s;
  }
}
