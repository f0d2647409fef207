/** Promises 1 to 5 together: runs of mixed calls, compared with the model after each call. */
public final class MixedRunsTest {
  private static final int UNFEED = 3;
  private static final int[] FED = {0, -1, 0x1A5};

  public static void main(String[] args) {
    for (int start : new int[] {0, 1, 2, 14, 15, 16, 17, 20, 33}) {
      everyShortRun(start, 5);
    }
    for (int weight = 0; weight <= 10; weight++) {
      longRun(weight, 3000);
    }
    Check.end();
  }

  /** Every run of so many calls out of three feeds and unfeed, each on a new object. */
  private static void everyShortRun(int start, int calls) {
    for (int run = 0; run < 1 << 2 * calls; run++) {
      Pair pair = new Pair("start " + start + ", run " + run);
      pair.feedNumbered(1, start);
      for (int i = 0; i < calls; i++) {
        oneCall(run >> 2 * i & 3, pair);
      }
      pair.sameMemory();
    }
  }

  private static void oneCall(int choice, Pair pair) {
    if (choice == UNFEED) {
      pair.unfeed();
    } else {
      pair.feed(FED[choice]);
    }
  }

  /** A fixed run in which about weight of ten calls are feeds; the same at every start. */
  private static void longRun(int weight, int calls) {
    Pair pair = new Pair("weight " + weight);
    int state = 88172645 + weight;
    for (int i = 0; i < calls; i++) {
      state = scrambled(state);
      if (Integer.remainderUnsigned(state, 10) < weight) {
        pair.feed(scrambled(state ^ 0x5DEECE66));
      } else {
        pair.unfeed();
      }
    }
    pair.sameMemory();
  }

  private static int scrambled(int state) {
    int s = state;
    s ^= s << 13;
    s ^= s >>> 17;
    s ^= s << 5;
    return s;
  }
}
