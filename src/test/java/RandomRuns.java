import java.util.Random;

/** Runs of 512 drawn calls on new objects; every answer is held against the Oracle's. */
public final class RandomRuns {
  private static final String[] NAMES = {"none", "hash", "real", "both", "labels", "kids", "ends", "marks", "lower",
      "firsts", "nons", "hashh", "", "Both"};
  private static int wrong = 0;
  private final Random random;
  private final BeginningsFilter x = new BeginningsFilter();
  private final Oracle y = new Oracle();
  private final int run;
  private final int alphabet;

  private RandomRuns(int run) {
    this.run = run;
    random = new Random(run * 7919L + 17);
    alphabet = new int[] {1, 2, 3, 4, 16, 256}[random.nextInt(6)];
  }

  public static void main(String[] args) {
    int runs = args.length > 0 ? Integer.parseInt(args[0]) : 240;
    for (int run = 0; run < runs && wrong < 20; run++) new RandomRuns(run).go();
    System.out.println(wrong == 0 ? "RandomRuns: all answers are as due" : "RandomRuns: " + wrong + " wrong answers");
    if (wrong != 0) System.exit(1);
  }

  private void go() {
    int left = 512;
    left -= begin();
    while (left > 0 && wrong < 20) left -= step();
  }

  /** Enough keys, mostly, that the tree has a shape. */
  private int begin() {
    int n = 0;
    n += due("set(4)", x.set(4, alphabet), y.set(4, alphabet));
    int seed = random.nextInt();
    n += due("state", x.state(seed), y.state(seed));
    int many = 1 + random.nextInt(64);
    int m = 1 + random.nextInt(8);
    if (random.nextInt(8) != 0) n += due("fill " + many + " " + m, x.fill(many, m), y.fill(many, m));
    n += tell(NAMES[random.nextInt(4)]);
    n += due("mode", x.mode(), y.mode());
    n += settings();
    return n + due("build", x.build(), y.build());
  }

  private int settings() {
    int n = 0;
    int[] most = {8, 8, 9, 64};
    for (int what = 0; what < 4; what++) {
      if (random.nextInt(3) == 0) {
        int v = what == 3 && random.nextBoolean() ? 1 : random.nextInt(most[what] + 1);
        n += due("set " + what + " " + v, x.set(what, v), y.set(what, v));
      }
    }
    if (random.nextInt(3) == 0) {
      int v = random.nextInt();
      n += due("set 5 " + v, x.set(5, v), y.set(5, v));
    }
    return n;
  }

  private int odd() {
    int[] odd = {Integer.MIN_VALUE, Integer.MAX_VALUE, -1, -2, 0, 1, 64, 65, 255, 256, 257, 1000, -100};
    return odd[random.nextInt(odd.length)];
  }

  /** Nearly always one of 0 .. most - 1, else one that is none, or far out. */
  private int about(int most) {
    int luck = random.nextInt(24);
    if (luck == 0) return odd();
    if (luck == 1) return most;
    return most <= 0 ? 0 : random.nextInt(most);
  }

  private int length() { return random.nextInt(20) == 0 ? odd() : 1 + random.nextInt(8); }

  private int a, b, n;

  /** A key near those that are there: one of them, changed a little, or drawn. */
  private void pick() {
    int[] key = new int[8];
    int luck = random.nextInt(8);
    n = length();
    for (int i = 0; i < 8; i++) {
      key[i] = random.nextInt(alphabet);
      if (luck == 0) key[i] = random.nextInt(256);
      if (luck == 1 && random.nextBoolean()) key[i] = random.nextBoolean() ? 255 : 0;
    }
    java.util.List<int[]> own = y.now.filter.keys;
    if (luck >= 4 && !own.isEmpty()) {
      int[] k = own.get(random.nextInt(own.size()));
      System.arraycopy(k, 0, key, 0, k.length);
      n = k.length;
      if (luck >= 5) {
        n = Math.max(1, Math.min(8, n + random.nextInt(4) - 1));
        int at = Math.max(0, n - 1 - random.nextInt(2));
        if (random.nextBoolean()) key[at] = key[at] + random.nextInt(5) - 2 & 255;
      }
    }
    a = key[0] << 24 | key[1] << 16 | key[2] << 8 | key[3];
    b = key[4] << 24 | key[5] << 16 | key[6] << 8 | key[7];
    if (random.nextInt(4) == 0) garbage();
  }

  /** What lies behind the key's bytes counts for nothing. */
  private void garbage() {
    if (n < 1 || n > 8) return;
    long all = (long) a << 32 | b & 0xFFFFFFFFL;
    long mask = n == 8 ? 0 : -1L >>> (8 * n);
    all = all & ~mask | random.nextLong() & mask;
    a = (int) (all >>> 32);
    b = (int) all;
  }

  private int step() {
    int which = random.nextInt(100);
    if (which < 20) return changes(which);
    if (which < 50) return asks(which);
    if (which < 75) return tree(which);
    return others(which);
  }

  private int changes(int which) {
    pick();
    int m = about(9);
    String key = " " + a + " " + b + " " + n;
    switch (which) {
      case 0: case 1: return due("build", x.build(), y.build());
      case 2: case 3: case 4: return due("add" + key, x.add(a, b, n), y.add(a, b, n));
      case 5: case 6: case 7: return due("remove" + key, x.remove(a, b, n), y.remove(a, b, n));
      case 8: { int k = about(65); return due("fill " + k + " " + m, x.fill(k, m), y.fill(k, m)); }
      case 9: case 10: return tell(NAMES[random.nextInt(NAMES.length)]) + due("mode", x.mode(), y.mode());
      case 11: case 12: case 13: return tell(NAMES[random.nextInt(NAMES.length)]) + due("row", x.row(), y.row());
      case 14: case 15: return tapeKeys();
      case 16: { int w = about(6); int v = odd(); return due("set " + w + " " + v, x.set(w, v), y.set(w, v)); }
      case 17: return settings() + due("look 18", x.look(18), y.look(18));
      case 18: { boolean t = random.nextInt(3) == 0; return due("image " + t, x.image(t), y.image(t)); }
      default: return random.nextInt(4) != 0 ? tapeOdd() : due("state", x.state(n), y.state(n));
    }
  }

  private int asks(int which) {
    pick();
    int c = a, d = b, m = n;
    if (random.nextInt(4) != 0) pick();
    if (random.nextInt(3) != 0 && n >= 1 && n <= 8 && m >= 1 && m <= 8
        && Oracle.ORDER.compare(Oracle.key(a, b, n), Oracle.key(c, d, m)) > 0) {
      int e = a, f = b, g = n;
      a = c; b = d; n = m;
      c = e; d = f; m = g;
    }
    String key = " " + a + " " + b + " " + n;
    String both = key + " to " + c + " " + d + " " + m;
    int w = about(3);
    switch (which) {
      case 20: case 21: case 22: case 23: return due("may" + key, x.may(a, b, n), y.may(a, b, n));
      case 24: case 25: case 26: return due("leafOf" + key, x.leafOf(a, b, n), y.leafOf(a, b, n));
      case 27: case 28: case 29: return due("range" + both, x.range(a, b, n, c, d, m), y.range(a, b, n, c, d, m));
      case 30: case 31: case 32: return due("meets" + both, x.meets(a, b, n, c, d, m), y.meets(a, b, n, c, d, m));
      case 33: case 34: case 35: return due("holds" + both, x.holds(a, b, n, c, d, m), y.holds(a, b, n, c, d, m));
      case 36: case 37: case 38: return due("seek" + key, x.seek(a, b, n), y.seek(a, b, n));
      case 39: case 40: case 41: return due("seekBack" + key, x.seekBack(a, b, n), y.seekBack(a, b, n));
      case 42: case 43: case 44: return due("has" + key + " " + w, x.has(a, b, n, w), y.has(a, b, n, w));
      case 45: case 46: return due("spread" + key + " " + w, x.spread(a, b, n, w), y.spread(a, b, n, w));
      case 47: case 48: return due("question" + key, x.question(a, b, n), y.question(a, b, n));
      default: { int v = about(17); return due("tuned " + v + " " + w, x.tuned(v, w), y.tuned(v, w)); }
    }
  }

  private int tree(int which) {
    Oracle.Filter f = y.now.filter;
    int leaf = about(f.leaves.size());
    int node = about(f.nodes.size());
    int i = about(f.rows[y.row].length);
    switch (which) {
      case 50: case 51: case 52: case 53: {
        int w = about(19);
        return due("leaf " + leaf + " " + w, x.leaf(leaf, w), y.leaf(leaf, w));
      }
      case 54: case 55: return due("leafAt " + leaf, x.leafAt(leaf), y.leafAt(leaf));
      case 56: case 57: case 58: { int w = about(8); return due("node " + node + " " + w, x.node(node, w), y.node(node, w)); }
      case 59: case 60: case 61: {
        int o = random.nextBoolean() ? about(256) : about(alphabet);
        return due("child " + node + " " + o, x.child(node, o), y.child(node, o));
      }
      case 62: case 63: {
        int l = about(f.levels);
        int w = about(6);
        return due("level " + l + " " + w, x.level(l, w), y.level(l, w));
      }
      case 64: case 65: case 66: {
        int k = about(f.items.size());
        int w = about(5);
        return due("item " + k + " " + w, x.item(k, w), y.item(k, w));
      }
      case 67: case 68: return due("bit " + i, x.bit(i), y.bit(i));
      case 69: case 70: return due("rank " + i, x.rank(i), y.rank(i));
      case 71: case 72: { int k = about(y.bits(6)); return due("select " + k, x.select(k), y.select(k)); }
      case 73: { int w = about(8); return due("bits " + w, x.bits(w), y.bits(w)); }
      default: { int w = about(3); return due("least " + w, x.least(w), y.least(w)); }
    }
  }

  private int others(int which) {
    int m = about(9);
    int leaf = about(y.now.filter.leaves.size() + 1);
    switch (which) {
      case 75: case 76: return due("cover " + m, x.cover(m), y.cover(m));
      case 77: case 78: return due("loose " + m, x.loose(m), y.loose(m));
      case 79: case 80: case 81: return due("free " + leaf + " " + m, x.free(leaf, m), y.free(leaf, m));
      case 82: return random.nextInt(4) == 0 ? due("forget", x.forget(), y.forget()) : due("look 17", x.look(17), y.look(17));
      case 83: { int k = about(201); return due("storm " + k + " " + m, x.storm(k, m), y.storm(k, m)); }
      case 84: {
        int k = random.nextInt(4) == 0 ? about(201) : 1 + random.nextInt(8);
        int w = about(256);
        return due("stormRange " + k + " " + m + " " + w, x.stormRange(k, m, w), y.stormRange(k, m, w));
      }
      case 85: case 86: { int w = about(7); return due("account " + w, x.account(w), y.account(w)); }
      case 87: case 88: { int w = about(4); return due("since " + w, x.since(w), y.since(w)); }
      case 89: case 90: case 91: return text(about(y.now.filter.leaves.size() + 1) - 1);
      case 92: { int i = about(40); return due("sign " + i, x.sign(i), y.sign(i)); }
      default: { int w = about(23) - 1; return due("look " + w, x.look(w), y.look(w)); }
    }
  }

  private int text(int leaf) {
    int n = due("report " + leaf, x.report(leaf), y.report(leaf));
    int i = random.nextInt(y.text.length() + 1);
    return n + due("sign " + i, x.sign(i), y.sign(i));
  }

  private int tell(String name) {
    int[] v = new int[5];
    for (int i = 0; i < name.length(); i++) v[i / 4] |= name.charAt(i) << (24 - 8 * (i % 4));
    int n = due("feed", x.feed(v[0], v[1], v[2], v[3], v[4]), y.feed(v[0], v[1], v[2], v[3], v[4]));
    return n + due("end", x.end(name.length()), y.end(name.length()));
  }

  private int tapeKeys() {
    byte[] bytes = new byte[160];
    int end = 0;
    int most = random.nextBoolean() ? 160 : 20;
    while (end < most - 9) {
      int k = random.nextInt(60) == 0 ? random.nextInt(12) : 1 + random.nextInt(random.nextBoolean() ? 8 : 2);
      bytes[end] = (byte) k;
      for (int i = 1; i <= Math.min(k, 8); i++) bytes[end + i] = (byte) random.nextInt(alphabet);
      end += 1 + Math.min(k, 8);
    }
    if (random.nextInt(8) == 0) end--;
    int n = due("end 0", x.end(0), y.end(0));
    for (int at = 0; at < end; at += 20) {
      int[] v = new int[5];
      for (int i = 0; i < 20; i++) v[i / 4] |= (bytes[at + i] & 255) << (24 - 8 * (i % 4));
      n += due("feed", x.feed(v[0], v[1], v[2], v[3], v[4]), y.feed(v[0], v[1], v[2], v[3], v[4]));
    }
    n += due("end " + end, x.end(end), y.end(end));
    return n + due("keys", x.keys(), y.keys());
  }

  private int tapeOdd() {
    int n = 0;
    for (int i = random.nextInt(10); i > 0; i--) {
      int v = random.nextInt();
      n += due("feed", x.feed(v, 1, v, 2, v), y.feed(v, 1, v, 2, v));
    }
    int k = about(161);
    return n + due("end " + k, x.end(k), y.end(k)) + due("look 18", x.look(18), y.look(18));
  }

  private int due(String call, boolean got, boolean want) { return due(call, got ? 1L : 0L, want ? 1L : 0L); }

  private int due(String call, long got, long want) {
    if (got != want) {
      wrong++;
      System.out.println("run " + run + ": " + call + " answered " + got + ", due is " + want);
    }
    return 1;
  }
}
