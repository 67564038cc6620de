import java.util.Arrays;

/** cover(), loose(), free() of 1 and 2 bytes, against all keys of so many bytes gone through one by one. */
public final class CountedKeys {
  private static int wrong = 0;

  public static void main(String[] args) {
    for (int run = 0; run < 24; run++) {
      for (int m = 1; m <= 2; m++) check(run, m);
    }
    System.out.println(wrong == 0 ? "CountedKeys: all answers are as due" : "CountedKeys: " + wrong + " wrong answers");
    if (wrong != 0) System.exit(1);
  }

  private static void check(int run, int m) {
    BeginningsFilter x = new BeginningsFilter();
    Oracle y = new Oracle();
    int alphabet = run % 3 == 0 ? 256 : 2 + 5 * run;
    x.set(4, alphabet);
    y.set(4, alphabet);
    x.state(run);
    y.state(run);
    x.set(1, run % 9);
    y.set(1, run % 9);
    x.feed(0x7265616c, 0, 0, 0, 0);
    x.end(4);
    x.mode();
    y.now.mode = 2;
    x.fill(1 + 3 * run % 64, 1 + run % 4);
    y.fill(1 + 3 * run % 64, 1 + run % 4);
    x.build();
    y.build();
    count(run, m, x, y);
  }

  /** Keys come in order, so those behind the highest of leaf i - 1 and ahead of the lowest of leaf i are free. */
  private static void count(int run, int m, BeginningsFilter x, Oracle y) {
    int leaves = y.now.filter.leaves.size();
    long[] free = new long[leaves + 1];
    long cover = 0;
    long loose = 0;
    int gap = 0;
    for (int v = 0; v < (m == 1 ? 256 : 65536); v++) {
      int[] key = m == 1 ? new int[] {v} : new int[] {v >> 8, v & 255};
      int leaf = y.now.filter.leafOf(key, y.now.filter.r);
      while (gap < leaves && leafIsAhead(y, gap, key)) gap++;
      if (leaf != -1) {
        cover++;
        if (!y.now.filter.hasKey(key)) loose++;
      } else {
        free[gap]++;
      }
    }
    due(run, "cover " + m, x.cover(m), cover);
    due(run, "loose " + m, x.loose(m), loose);
    for (int i = 0; i <= leaves; i++) due(run, "free " + i + " " + m, x.free(i, m), free[i]);
  }

  private static boolean leafIsAhead(Oracle y, int leaf, int[] key) {
    int[] last = new int[8];
    Arrays.fill(last, 255);
    return !y.now.filter.meets(y.now.filter.leaves.get(leaf), key, last);
  }

  private static void due(int run, String call, long got, long want) {
    if (got != want) {
      wrong++;
      System.out.println("run " + run + ": " + call + " answered " + got + ", due is " + want);
    }
  }
}
