/**
 * What the tests of the edges share: keys as texts of their bytes, answers held against what is due, and all
 * that an object tells of itself.
 */
abstract class Bench {
  static final int NONE = -1;
  static final int LEAST = Integer.MIN_VALUE;
  static final int MOST = Integer.MAX_VALUE;
  static final String[] WORDS = {"a", "ab", "abc", "b", "bcd"};
  static final String ALL_255 = "\377\377\377\377\377\377\377\377";
  /** Keys with the edges of bytes and of lengths. */
  static final String[] IN_ORDER = {"\0", "\0\0", "\0\0\0\0\0\0\0\0", "\0\0\0\0\0\0\0\1", "\0\0\0\0\0\0\1", "\0\1",
      "\0\177", "\0\200", "\0\377", "\1", "\1\0\0\0", "\1\0\0\0\0", "\1\0\0\0\1", "\1\0\0\0\177", "\1\0\0\0\200", "\1\0\0\1",
      "\176", "\177", "\177\377\377\377\377\377\377\377", "\200", "\200\0", "\200\0\0\0\0\0\0\1", "\376\377", "\377",
      "\377\0", "\377\376\377\377\377\377\377\377", "\377\377", "\377\377\377\377\377\377\377",
      "\377\377\377\377\377\377\377\0", "\377\377\377\377\377\377\377\376", ALL_255};
  private static int wrong = 0;
  private static int held = 0;
  private static String sentence = "";

  /** One call; a boolean counts 1 or 0. */
  interface Call {
    long on(BeginningsFilter x);
  }

  /** Calls by which a new object comes to where a test begins. */
  interface Scene {
    void on(BeginningsFilter x);
  }

  /** The sentence of the document that the checks behind it are for. */
  static void says(String words) { sentence = words; }

  static void due(String call, long got, long want) {
    held++;
    if (got != want) tellWrong(call + " answered " + got + ", due is " + want);
  }

  static void due(String call, boolean got, boolean want) { due(call, got ? 1L : 0L, want ? 1L : 0L); }

  static void due(String call, String got, String want) {
    held++;
    if (!got.equals(want)) tellWrong(call + " answered " + got + ", due is " + want);
  }

  private static void tellWrong(String text) {
    wrong++;
    if (wrong <= 40) System.out.println("'" + sentence + "': " + text);
  }

  static void end(String name) {
    System.out.println(name + ": " + (wrong == 0 ? held + " answers are as due" : wrong + " wrong answers"));
    if (wrong != 0) System.exit(1);
  }

  // ---- keys ----

  private static int part(String bytes, int from) {
    int v = 0;
    for (int i = from; i < from + 4; i++) v = v << 8 | (i < bytes.length() ? bytes.charAt(i) : 0);
    return v;
  }

  static int a(String key) { return part(key, 0); }

  static int b(String key) { return part(key, 4); }

  /** A key by the numbers of its bytes. */
  static String key(int... bytes) {
    StringBuilder s = new StringBuilder();
    for (int v : bytes) s.append((char) v);
    return s.toString();
  }

  static String hex(String key) {
    StringBuilder s = new StringBuilder();
    for (int i = 0; i < key.length(); i++) s.append(String.format("%02x", (int) key.charAt(i)));
    return s.toString();
  }

  static int add(BeginningsFilter x, String k) { return x.add(a(k), b(k), k.length()); }

  static int remove(BeginningsFilter x, String k) { return x.remove(a(k), b(k), k.length()); }

  static int has(BeginningsFilter x, String k, int what) { return x.has(a(k), b(k), k.length(), what); }

  static int may(BeginningsFilter x, String k) { return x.may(a(k), b(k), k.length()); }

  static int leafOf(BeginningsFilter x, String k) { return x.leafOf(a(k), b(k), k.length()); }

  static int seek(BeginningsFilter x, String k) { return x.seek(a(k), b(k), k.length()); }

  static int seekBack(BeginningsFilter x, String k) { return x.seekBack(a(k), b(k), k.length()); }

  static int spread(BeginningsFilter x, String k, int what) { return x.spread(a(k), b(k), k.length(), what); }

  static int question(BeginningsFilter x, String k) { return x.question(a(k), b(k), k.length()); }

  static int range(BeginningsFilter x, String k, String l) {
    return x.range(a(k), b(k), k.length(), a(l), b(l), l.length());
  }

  static int meets(BeginningsFilter x, String k, String l) {
    return x.meets(a(k), b(k), k.length(), a(l), b(l), l.length());
  }

  static int holds(BeginningsFilter x, String k, String l) {
    return x.holds(a(k), b(k), k.length(), a(l), b(l), l.length());
  }

  // ---- the tape ----

  /** The tape is just these bytes. */
  static void tape(BeginningsFilter x, String bytes) {
    x.end(0);
    for (int i = 0; i < bytes.length(); i += 20) {
      x.feed(part(bytes, i), part(bytes, i + 4), part(bytes, i + 8), part(bytes, i + 12), part(bytes, i + 16));
    }
    x.end(bytes.length());
  }

  static int mode(BeginningsFilter x, String name) {
    tape(x, name);
    return x.mode();
  }

  static int row(BeginningsFilter x, String name) {
    tape(x, name);
    return x.row();
  }

  static int keys(BeginningsFilter x, String bytes) {
    tape(x, bytes);
    return x.keys();
  }

  /** A new object with these keys, built with that mode and what is told: HASHED, REAL, DENSE, RATIO, .. */
  static BeginningsFilter built(String mode, int[] told, String... keys) {
    BeginningsFilter x = new BeginningsFilter();
    for (int i = 0; i < told.length; i++) x.set(i, told[i]);
    mode(x, mode);
    for (String k : keys) add(x, k);
    x.build();
    return x;
  }

  static BeginningsFilter built(String... keys) { return built("none", new int[0], keys); }

  /** So many leaves of one byte each, below one node. */
  static BeginningsFilter wide(int leaves) {
    BeginningsFilter x = new BeginningsFilter();
    for (int i = 0; i < leaves; i++) x.add(i << 24, 0, 1);
    x.build();
    return x;
  }

  // ---- numbers as the document says them, by another arithmetic than the class has ----

  private static final java.math.BigInteger TWO_TO_32 = java.math.BigInteger.ONE.shiftLeft(32);

  /** All 32 bits of HASH, without sign. */
  static long hash(int salt, String key) {
    java.math.BigInteger x = java.math.BigInteger.valueOf(salt).mod(TWO_TO_32);
    for (int i = 0; i < key.length(); i++) {
      x = x.xor(java.math.BigInteger.valueOf(key.charAt(i)));
      x = x.multiply(java.math.BigInteger.valueOf(16777619)).mod(TWO_TO_32);
    }
    return x.xor(x.shiftRight(15)).longValueExact();
  }

  static int stateBehind(int state) {
    java.math.BigInteger x = java.math.BigInteger.valueOf(state).multiply(java.math.BigInteger.valueOf(1664525));
    return x.add(java.math.BigInteger.valueOf(1013904223)).intValue();
  }

  static int drawn(int state, int m) {
    return (int) (java.math.BigInteger.valueOf(state).mod(TWO_TO_32).longValueExact() / 256 % m);
  }

  // ---- all that an object tells ----

  static String text(BeginningsFilter x, int leaf) {
    x.report(leaf);
    return latest(x);
  }

  static String latest(BeginningsFilter x) {
    StringBuilder s = new StringBuilder();
    int sign = x.sign(0);
    for (int i = 1; sign != NONE && i < 200; i++) {
      s.append((char) sign);
      sign = x.sign(i);
    }
    return s.toString();
  }

  static String looks(BeginningsFilter x) {
    StringBuilder s = new StringBuilder("looks");
    for (int i = 0; i <= 20; i++) s.append(' ').append(x.look(i));
    s.append(" account");
    for (int i = 0; i < 6; i++) s.append(' ').append(x.account(i));
    return s.toString();
  }

  /** Of THE FILTER all that some calls tell. */
  static String filter(BeginningsFilter x) {
    StringBuilder s = new StringBuilder("filter ");
    for (int i = 0; i < 5; i++) s.append(' ').append(x.bits(i));
    s.append(' ').append(x.least(0)).append(' ').append(x.least(1));
    for (int m = 1; m < 8; m++) s.append(' ').append(x.cover(m)).append(' ').append(x.loose(m));
    int leaves = x.look(9);
    for (int i = 0; i < leaves; i++) {
      s.append(" | ").append(x.leaf(i, 0)).append(' ').append(x.leaf(i, 2)).append(' ').append(x.leaf(i, 3));
    }
    return s.toString();
  }

  /**
   * All that it is: what is told, THE SET and THE FILTER (asked by the keys that are told here), QUESTIONS, STATE,
   * ACCOUNT, the ROW, the latest REPORT, THE TAPE (as keys) and at last THE IMAGE. The object is spent by it.
   */
  static String whole(BeginningsFilter x, String... keys) {
    StringBuilder s = new StringBuilder(latest(x)).append(' ').append(looks(x));
    s.append(" row ").append(x.bits(5)).append(' ').append(x.bits(6)).append(' ').append(x.select(0));
    s.append(" set ").append(numbers(x, keys)).append(' ').append(x.since(0)).append(' ').append(x.since(2));
    s.append(' ').append(filter(x));
    s.append(" tuned");
    for (int w = 0; w <= 16; w += 2) s.append(' ').append(x.tuned(w, 2)).append(' ').append(x.tuned(w, 0));
    s.append(" tape ").append(x.keys()).append(' ').append(numbers(x, keys));
    s.append(" image ").append(x.image(false)).append(' ').append(looks(x)).append(' ').append(numbers(x, keys));
    return s.toString();
  }

  private static String numbers(BeginningsFilter x, String... keys) {
    StringBuilder s = new StringBuilder();
    for (String k : keys) s.append(' ').append(has(x, k, 0));
    return s.toString();
  }
}
