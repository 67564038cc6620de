/**
 * The edges that part 4 of the document names: reports and the image; and the 512 calls of an object. Right at each, one below it,
 * one above it; what a refused call leaves as it was is in RefusedTests.
 */
public final class TextEdges extends Bench {
  public static void main(String[] args) {
    reports();
    theImage();
    calls512();
    end("TextEdges");
  }

  private static void reports() {
    says("REPORT of THE FILTER: behind all '.'; numbers without noughts ahead");
    due("of no keys", text(new BeginningsFilter(), NONE), ".");
    due("of one", text(built("a"), NONE), "s1:1.");
    due("9 branches", text(wide(9), NONE), "s1:9.");
    due("10 branches", text(wide(10), NONE), "s1:10.");
    due("64 branches", text(wide(64), NONE), "s1:64.");
    for (int dense = 0; dense < 4; dense++) {
      String[] want = {"s1:2,s2:2,s1:1.", "d1:2,s2:2,s1:1.", "d1:2,d2:2,s1:1.", "d1:2,d2:2,d1:1."};
      due("dense " + dense, text(built("none", new int[] {4, 4, dense}, WORDS), NONE), want[dense]);
    }
    says("REPORT of a LEAF: each byte as two of 0123456789abcdef; '$'; '#' and HASH; '/' and the R bits");
    BeginningsFilter x = built(key(0x00, 0x09, 0x0a, 0x0f, 0x10, 0x9f, 0xa0, 0xff), "\0\11\12\17\20\237\240\376");
    due("eight bytes", text(x, 1), "00090a0f109fa0ff");
    due("eight bytes", text(x, 0), "00090a0f109fa0fe");
    due("ended", text(built("a", "aa"), 0), "61$");
    for (int h = 0; h <= 8; h += 4) {
      String hash = h == 0 ? "" : "#" + hash(0, "a") % (1L << h);
      x = built("hash", new int[] {h, 8, 0}, "a", "aa");
      due("hash of " + h, text(x, 0), "61$" + hash);
      x = built("both", new int[] {h, 1, 0}, "a", "aa");
      due("hash of " + h + " and one bit", text(x, 0), "61$" + hash + "/0");
    }
    String[] bits = {"", "/1", "/10", "/101", "/1010", "/10100", "/101001", "/1010010", "/10100101"};
    for (int r = 0; r <= 8; r++) {
      x = built("real", new int[] {8, r, 0}, key('b', 0xa5));
      due("bits of " + r, text(x, 0), "62" + bits[r]);
    }
    hashesAsNumbers();
    says("report: NONE if there is none such; sign: NONE if there is none such");
    x = built(WORDS);
    due("no report yet", x.sign(0), NONE);
    due("leaf 4", x.report(4), 4);
    due("last", x.sign(3), '3');
    due("behind", x.sign(4), NONE);
    due("ahead", x.sign(-1), NONE);
    due("leaf 5", x.report(5), NONE);
    due("leaf -2", x.report(-2), NONE);
    due("the latest is as it was", latest(x), "6263");
    x.build();
    due("whatever is built", latest(x), "6263");
    due("a shorter one", x.report(0), 3);
    due("is all there is", x.sign(3), NONE);
    due("the longest", longest().length(), 29);
  }

  private static void hashesAsNumbers() {
    String[] ends = {"0", "9", "10", "99", "100", "255"};
    for (String end : ends) {
      for (int salt = 0; salt < 100000; salt++) {
        if (hash(salt, "a") % 256 == Integer.parseInt(end)) {
          due("hash " + end, text(built("hash", new int[] {8, 8, 0, 1, 1, salt}, "a"), 0), "61#" + end);
          break;
        }
      }
    }
  }

  /** Eight bytes, a hash of three digits, eight bits. */
  private static String longest() {
    for (int salt = 0; salt < 100000; salt++) {
      if (hash(salt, "abcdefgh") % 256 > 99) {
        return text(built("both", new int[] {8, 8, 0, 1, 1, salt}, "abcdefgh", "abcdefgi"), 0);
      }
    }
    return "";
  }

  private static void theImage() {
    says("image: false if there is none");
    BeginningsFilter x = new BeginningsFilter();
    due("none", x.image(false), false);
    due("taken of a new object", x.image(true), true);
    for (String k : WORDS) add(x, k);
    x.build();
    x.state(5);
    question(x, "a");
    may(x, "a");
    due("gone back", x.image(false), true);
    due("as new", looks(x), looks(new BeginningsFilter()));
    due("the filter of no keys", filter(x), filter(new BeginningsFilter()));
    says("gone back to it may be more than once");
    Scene[] changes = {
        y -> remove(y, "a"), y -> add(y, "zz"), y -> y.fill(64, 8), y -> keys(y, "\1k"),
        y -> y.set(0, 2), y -> y.set(1, 2), y -> y.set(2, 0), y -> y.set(3, 2), y -> y.set(4, 2), y -> y.set(5, 2),
        y -> mode(y, "none"), y -> mode(y, "hash"), y -> y.build(), y -> y.state(9), y -> y.forget(),
        y -> question(y, "zz"), y -> may(y, "bc"), y -> range(y, "bcx", "bcx"), y -> y.storm(3, 2),
        y -> y.stormRange(3, 2, 9)};
    for (int i = 0; i < changes.length; i++) {
      BeginningsFilter y = pictured();
      changes[i].on(y);
      due("change " + i + " is one", withSet(y).equals(withSet(pictured())), false);
      y = pictured();
      changes[i].on(y);
      due("gone back", y.image(false), true);
      due("change " + i + " is gone", withSet(y), withSet(pictured()));
      y = pictured();
      y.image(false);
      changes[i].on(y);
      y.build();
      y.image(false);
      due("and again", withSet(y), withSet(pictured()));
    }
    says("THE IMAGE: as they were when it was taken, the latest time");
    x = pictured();
    add(x, "zz");
    x.image(true);
    remove(x, "zz");
    x.image(false);
    due("the later one", has(x, "zz", 0) >= 0, true);
    imageLeavesAlone();
  }

  /** A filter that is not of its set, and an image of it. */
  private static BeginningsFilter pictured() {
    BeginningsFilter x = built("both", new int[] {7, 3, 1, 1, 3, 5}, WORDS);
    add(x, "bce");
    remove(x, "ab");
    x.set(0, 6);
    x.state(1234);
    question(x, "bc\377");
    may(x, "bcd");
    range(x, "a", "b");
    x.image(true);
    return x;
  }

  private static String withSet(BeginningsFilter x) {
    StringBuilder s = new StringBuilder(looks(x)).append(filter(x));
    for (String k : new String[] {"a", "ab", "abc", "b", "bcd", "bce", "k", "zz"}) s.append(' ').append(has(x, k, 0));
    for (int w = 0; w < 4; w++) s.append(' ').append(x.tuned(w, 2));
    return s.toString();
  }

  private static void imageLeavesAlone() {
    says("THE TAPE, the ROW that is chosen, the latest REPORT stay");
    BeginningsFilter x = built("none", new int[] {4, 4, 2}, WORDS);
    row(x, "kids");
    x.report(0);
    tape(x, "\1x");
    x.image(true);
    due("the tape stays when it is taken", x.look(18), 2);
    row(x, "ends");
    x.report(4);
    tape(x, "\1y\1z");
    x.image(false);
    due("the row", x.bits(5), 3);
    due("the report", latest(x), "6263");
    due("the tape", x.look(18), 4);
    due("its bytes", x.keys(), 2);
    due("its bytes", has(x, "y", 0), 5);
    due("its bytes", has(x, "x", 0), NONE);
  }

  private static void calls512() {
    says("An object is used for at most 512 calls");
    BeginningsFilter x = new BeginningsFilter();
    x.set(4, 256);
    x.fill(64, 8);
    x.build();
    for (int i = 4; i < 511; i++) x.storm(200, 8);
    due("the 512th", x.account(0), 507 * 200);
    x = new BeginningsFilter();
    for (int i = 1; i < 512; i++) {
      if (i % 2 == 1) due("take", x.image(true), true);
      else due("back", x.image(false), true);
    }
    due("the 512th", x.look(8), 0);
    x = new BeginningsFilter();
    int came = 0;
    for (int i = 1; i < 510; i++) came += i % 2 == 1 ? x.add(i << 20, 0, 8) + 1 : x.remove(i - 1 << 20, 0, 8) + 1;
    due("each came and went", came, 509);
    due("one is left", x.build(), 1);
    due("it is there", x.may(509 << 20, 0, 8), 1);
    due("the 512th", x.leafOf(509 << 20, 0, 8), 0);
  }
}
