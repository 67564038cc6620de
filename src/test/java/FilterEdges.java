/**
 * The edges that part 3 of the document names: what is possible, ranges, counts, questions, draws, the account. Right at each, one below it,
 * one above it; what a refused call leaves as it was is in RefusedTests.
 */
public final class FilterEdges extends Bench {
  public static void main(String[] args) {
    possible();
    ranges();
    counts();
    spreads();
    questionsAndTuning();
    draws();
    theAccount();
    end("FilterEdges");
  }

  private static void possible() {
    says("POSSIBLE: if it is ENDED its BEGINNING alone");
    BeginningsFilter x = built("real", new int[] {8, 0, 0}, "b", "bb");
    due("b", leafOf(x, "b"), 0);
    due("b 0", leafOf(x, "b\0"), NONE);
    due("b 97", leafOf(x, "ba"), NONE);
    due("bb", leafOf(x, "bb"), 1);
    due("bb of eight bytes", leafOf(x, "bb\377\377\377\377\377\377"), 1);
    due("bc", leafOf(x, "bc"), NONE);
    says("else all KEYS (of 8 bytes at most) that begin with its BEGINNING and whose NEXT is that of its TAIL");
    for (int r = 1; r <= 8; r++) {
      int wide = 1 << 8 - r;
      int low = 0x5a / wide * wide;
      BeginningsFilter y = built("real", new int[] {8, r, 0}, key('b', 0x5a), "c");
      due("no byte behind is 0: not alike", leafOf(y, "b"), low == 0 ? 0 : NONE);
      due("the first", leafOf(y, key('b', low)), 0);
      due("the last", leafOf(y, key('b', low + wide - 1)), 0);
      due("one less", leafOf(y, key('b', low - 1 & 255)), NONE);
      due("one more", leafOf(y, key('b', low + wide)), NONE);
      due("the last of eight bytes", leafOf(y, key('b', low + wide - 1, 255, 255, 255, 255, 255, 255)), 0);
      due("c has none behind: alike are the low ones", leafOf(y, key('c', wide - 1)), 1);
      due("c itself", leafOf(y, "c"), 1);
      due("c and one more", leafOf(y, key('c', wide)), NONE);
    }
    BeginningsFilter y = built("real", new int[] {8, 8, 0}, "abcdefgh", "abcdefgi");
    due("eight bytes: itself alone", leafOf(y, "abcdefgh"), 0);
    due("seven of them", leafOf(y, "abcdefg"), NONE);
    says("never denying one that was there");
    for (String mode : new String[] {"none", "hash", "real", "both"}) {
      BeginningsFilter z = built(mode, new int[] {8, 8, 9, 1, 1, -5}, IN_ORDER);
      for (int i = 0; i < IN_ORDER.length; i++) {
        due("may by " + mode, may(z, IN_ORDER[i]), 1);
        due("leafOf by " + mode, leafOf(z, IN_ORDER[i]), i);
        due("range by " + mode, range(z, IN_ORDER[i], IN_ORDER[i]), 1);
        due("meets by " + mode, meets(z, IN_ORDER[0], IN_ORDER[i]), i + 1);
        due("seek by " + mode, seek(z, IN_ORDER[i]), i);
        due("seekBack by " + mode, seekBack(z, IN_ORDER[i]), i);
      }
      due("none is false", z.account(2) + z.account(5), 0);
    }
  }

  /** Leaves: c with 40 .. 7f behind it, e$, e 00 with 00 .. 3f behind it. */
  private static BeginningsFilter three() {
    return built("real", new int[] {8, 2, 0}, "c\132", "e", "e\0");
  }

  private static void ranges() {
    BeginningsFilter x = three();
    String first = "c\100";
    String last = "c\177\377\377\377\377\377\377";
    String aheadOfFirst = "c\77\377\377\377\377\377\377";
    String behindLast = "c\200";
    says("A RANGE: from a KEY to another one that is no less (both are in it)");
    due("one key", range(x, "e", "e"), 1);
    due("one less", range(x, "e", "d\377\377\377\377\377\377\377"), NONE);
    due("one more", range(x, "e", "e\0"), 1);
    due("shorter", range(x, "e\0", "e"), NONE);
    says("It MEETS a LEAF: some KEY that is POSSIBLE there is in it");
    due("just the first", meets(x, "a", first), 1);
    due("just ahead", meets(x, "a", aheadOfFirst), 0);
    due("just the last", meets(x, last, "d"), 1);
    due("just behind", meets(x, behindLast, "d"), 0);
    due("just the first alone", meets(x, first, first), 1);
    due("just the last alone", meets(x, last, last), 1);
    due("between", meets(x, behindLast, "d\377"), 0);
    due("up to e", meets(x, behindLast, "e"), 1);
    due("up to e 0", meets(x, behindLast, "e\0"), 2);
    due("from behind e", meets(x, "e\0", "e\0"), 1);
    due("all", meets(x, "\0", ALL_255), 3);
    due("range ahead", range(x, "a", aheadOfFirst), 0);
    due("range first", range(x, "a", first), 1);
    due("range behind", range(x, behindLast, "d"), 0);
    due("range last", range(x, last, "d"), 1);
    says("It HOLDS one SURELY: all that are POSSIBLE there are in it");
    due("just all", holds(x, first, last), 1);
    due("but the first", holds(x, "c\100\0", last), 0);
    due("but the last", holds(x, first, "c\177\377\377\377\377\377\376"), 0);
    due("but the last by a byte less", holds(x, first, "c\177\377\377\377\377\377"), 0);
    due("but the first and the last", holds(x, "c\101", "c\102"), 0);
    due("nor by one key inside", holds(x, "c\101", "c\101"), 0);
    due("e alone", holds(x, "e", "e"), 1);
    due("of e 0 not all", holds(x, "e", "e\0"), 1);
    due("of e 0 all", holds(x, "e", "e\0\77\377\377\377\377\377"), 2);
    due("not quite", holds(x, "e\0", "e\0\77\377\377\377\377\376"), 0);
    due("all", holds(x, "\0", ALL_255), 3);
    due("between", holds(x, behindLast, "d"), 0);
    says("seek, seekBack: that is that KEY or behind it, ahead of it; NONE if there is none");
    due("up to the last", seek(x, last), 0);
    due("behind it", seek(x, behindLast), 1);
    due("e", seek(x, "e"), 1);
    due("e 0", seek(x, "e\0"), 2);
    due("the very last", seek(x, "e\0\77\377\377\377\377\377"), 2);
    due("behind all", seek(x, "e\0\100"), NONE);
    due("the most", seek(x, ALL_255), NONE);
    due("the least", seek(x, "\0"), 0);
    due("back: the first", seekBack(x, first), 0);
    due("back: ahead of all", seekBack(x, aheadOfFirst), NONE);
    due("back: the least", seekBack(x, "\0"), NONE);
    due("back: ahead of e", seekBack(x, "d\377\377\377\377\377\377\377"), 0);
    due("back: e", seekBack(x, "e"), 1);
    due("back: e 0", seekBack(x, "e\0"), 2);
    due("back: the most", seekBack(x, ALL_255), 2);
  }

  private static void counts() {
    BeginningsFilter x = three();
    says("COVER of m (1 .. 7)");
    long[] cover = {NONE, 1, 65, 16384 + 64, 16384L * 256 + 64 * 256};
    for (int m = 0; m < 5; m++) due("cover " + m, x.cover(m), cover[m]);
    due("cover 7", x.cover(7), (64L << 40) + (64L << 32));
    due("cover 8", x.cover(8), NONE);
    says("loose: COVER of m less the KEYS of THE FILTER of m bytes");
    due("loose 1", x.loose(1), 0);
    due("loose 2", x.loose(2), 63);
    due("loose 7", x.loose(7), x.cover(7));
    due("loose 0", x.loose(0), NONE);
    due("loose 8", x.loose(8), NONE);
    add(x, "dd");
    due("not of the set", x.loose(2), 63);
    says("FREE ahead of LEAF i (i 0: ahead of the first LEAF; i all LEAVES: behind the last one)");
    due("one byte ahead: up to c", x.free(0, 1), 100);
    due("two bytes ahead: up to c 3f", x.free(0, 2), 99 * 256 + 64);
    due("one byte between: d", x.free(1, 1), 1);
    due("two bytes between: c 80 .. d ff", x.free(1, 2), 128 + 256);
    due("none between e and e 0", x.free(2, 2), 0);
    due("nor of three", x.free(2, 3), 0);
    due("one byte behind: f ..", x.free(3, 1), 256 - 'f');
    due("two bytes behind: e 1 ..", x.free(3, 2), 65536 - 'e' * 256 - 1);
    due("three bytes behind: e 0 40 ..", x.free(3, 3), (1L << 24) - 'e' * 65536L - 64);
    due("seven bytes behind", x.free(3, 7), (1L << 56) - ('e' * 65536L + 64 << 32));
    due("i -1", x.free(-1, 1), NONE);
    due("i 4", x.free(4, 1), NONE);
    due("m 0", x.free(0, 0), NONE);
    due("m 8", x.free(0, 8), NONE);
    for (int m = 1; m < 8; m++) {
      long all = x.cover(m);
      for (int i = 0; i < 4; i++) all += x.free(i, m);
      due("together they are all of " + m + " bytes", all, 1L << 8 * m);
      due("without leaves: all", new BeginningsFilter().free(0, m), 1L << 8 * m);
      due("without leaves", new BeginningsFilter().free(1, m), NONE);
      due("without leaves", new BeginningsFilter().cover(m), 0);
      due("without leaves", new BeginningsFilter().loose(m), 0);
    }
    BeginningsFilter y = built("\0", ALL_255);
    due("none ahead of byte 0", y.free(0, 1), 0);
    due("none behind byte 255", y.free(2, 7), 0);
    due("between", y.free(1, 1), 254);
    due("between of seven bytes", y.free(1, 7), 254L << 48);
    due("cover 7", y.cover(7), 2L << 48);
    due("64 of 256", wide(64).cover(7), 64L << 48);
  }

  private static void spreads() {
    says("SPREAD of a KEY of 7 bytes at most");
    BeginningsFilter x = built("abcdefgh", "abcdefgi", "z");
    due("six bytes", spread(x, "abcdef", 0), 0);
    due("six bytes, least", spread(x, "abcdef", 2), NONE);
    due("seven bytes", spread(x, "abcdefg", 0), 2);
    due("none false", spread(x, "abcdefg", 1), 0);
    due("the least", spread(x, "abcdefg", 2), 'h');
    due("eight bytes", spread(x, "abcdefgh", 0), NONE);
    due("no bytes", x.spread(0, 0, 0, 0), NONE);
    due("all 256", spread(x, "z", 0), 256);
    due("all false", spread(x, "z", 1), 256);
    due("from 0 on", spread(x, "z", 2), 0);
    due("all 256 of seven bytes", spread(x, "zzzzzzz", 0), 256);
    due("what 3", spread(x, "z", 3), NONE);
    due("what -1", spread(x, "z", -1), NONE);
    x = built("z", ALL_255);
    due("256 beside other keys", spread(x, "z", 0), 256);
    due("none beside other keys", spread(x, "y", 0), 0);
    due("255 with all of 255", spread(x, "\377\377\377\377\377\377\377", 1), 255);
    x = built("real", new int[] {8, 8, 0}, "a\377", "b");
    due("the byte 255 alone", spread(x, "a", 0), 1);
    due("it is there", spread(x, "a", 1), 0);
    due("it is 255", spread(x, "a", 2), 255);
    due("the byte 0 alone", spread(x, "b", 0), 1);
    due("it is false", spread(x, "b", 1), 1);
    due("it is 0", spread(x, "b", 2), 0);
    due("none", spread(x, "c", 0), 0);
    due("none", spread(x, "c", 2), NONE);
    due("not asked", x.account(0), 0);
    x = built("hash", new int[] {8, 0, 0}, "k");
    int many = 0;
    int least = NONE;
    for (int i = 255; i >= 0; i--) {
      if ((hash(0, key('k', i)) ^ hash(0, "k")) % 256 == 0) {
        many++;
        least = i;
      }
    }
    due("by hash", spread(x, "k", 0), many);
    due("by hash, false", spread(x, "k", 1), many);
    due("by hash, least", spread(x, "k", 2), least);
  }

  // The one key is k A; its leaf's beginning is k, so A (41) is the byte behind it.
  private static final String OWN = "kA";

  /** A question with just so many bits of hash alike, and that byte behind the beginning. */
  private static String like(int hashBits, int next) {
    for (int i = 0; i < 1 << 20; i++) {
      String k = key('k', next, i >> 16, i >> 8 & 255, i & 255);
      long differing = hash(0, k) ^ hash(0, OWN);
      int alike = 0;
      while (alike < 9 && (differing >> alike & 1) == 0) alike++;
      if (alike == hashBits) return k;
    }
    return "";
  }

  private static void tuned(BeginningsFilter x, int w, int h, int r, int wrong) {
    due("h by " + w, x.tuned(w, 0), h);
    due("r by " + w, x.tuned(w, 1), r);
    due("false by " + w, x.tuned(w, 2), wrong);
  }

  private static void questionsAndTuning() {
    says("QUESTIONS: KEYS, 16 at most");
    BeginningsFilter x = built(OWN);
    due("none", x.look(17), 0);
    for (int i = 1; i <= 16; i++) due("question", question(x, "kB"), i);
    due("the 17th", question(x, "kC"), NONE);
    due("16", x.look(17), 16);
    due("all 16 are false", x.tuned(0, 2), 16);
    due("forget", x.forget(), 16);
    due("none", x.look(17), 0);
    due("none false", x.tuned(0, 2), 0);
    due("forget", x.forget(), 0);
    due("the first again", question(x, "kC"), 1);
    says("TUNED by w (0 .. 16): h, r (0 .. 8 both, w at most together)");
    x = built(OWN);
    for (int w : new int[] {0, 8, 16}) tuned(x, w, 0, 0, 0);
    for (int w : new int[] {-1, 17}) {
      for (int what = 0; what < 3; what++) due("w " + w, x.tuned(w, what), NONE);
    }
    due("what 3", x.tuned(0, 3), NONE);
    due("what -1", x.tuned(0, -1), NONE);
    question(x, like(7, 'A'));
    tuned(x, 0, 0, 0, 1);
    tuned(x, 7, 0, 0, 1);
    tuned(x, 8, 8, 0, 0);
    tuned(x, 16, 8, 0, 0);
    question(x, like(8, '@'));
    tuned(x, 7, 0, 0, 2);
    tuned(x, 8, 0, 8, 1);
    tuned(x, 15, 0, 8, 1);
    tuned(x, 16, 8, 8, 0);
    question(x, like(8, 'A'));
    tuned(x, 16, 8, 8, 1);
    x.forget();
    question(x, like(8, 'A'));
    tuned(x, 16, 0, 0, 1);
    says("of several those with the least sum, then the least h");
    x.forget();
    question(x, like(0, '\301'));
    tuned(x, 0, 0, 0, 1);
    tuned(x, 1, 0, 1, 0);
    tuned(x, 16, 0, 1, 0);
    x.forget();
    question(x, like(0, 'A'));
    tuned(x, 1, 1, 0, 0);
    x.forget();
    question(x, like(1, '@'));
    tuned(x, 1, 0, 0, 1);
    for (int w : new int[] {2, 7, 8, 9, 16}) tuned(x, w, 2, 0, 0);
    x.forget();
    question(x, like(1, '\1'));
    tuned(x, 1, 0, 0, 1);
    for (int w : new int[] {2, 3, 16}) tuned(x, w, 0, 2, 0);
    x.forget();
    question(x, like(1, '\101'));
    question(x, like(8, '\1'));
    tuned(x, 1, 0, 0, 2);
    tuned(x, 2, 0, 2, 1);
    tuned(x, 3, 0, 2, 1);
    tuned(x, 4, 2, 2, 0);
    tuned(x, 16, 2, 2, 0);
    says("FALSE: no KEY of THE FILTER; if H were h and R were r, THE FILTER else as it is");
    x.forget();
    question(x, OWN);
    question(x, "j");
    question(x, "l");
    tuned(x, 0, 0, 0, 0);
    question(x, "k");
    tuned(x, 0, 0, 0, 1);
    BeginningsFilter y = built("both", new int[] {8, 8, 0, 1, 1, 99}, OWN);
    y.set(5, 0);
    mode(y, "none");
    question(y, "kB");
    due("not by the tails that it has", y.tuned(0, 2), 1);
    says("an ENDED LEAF lets its own KEY through alone");
    y = built("a", "aa");
    question(y, "a");
    question(y, "a\0");
    question(y, "ab");
    due("none false", y.tuned(0, 2), 0);
  }

  private static void draws() {
    says("DRAW: 1664525 times itself + 1013904223 (ints, which wrap), its highest 24 bits (without sign) modulo m");
    for (int state : new int[] {0, 1, -1, MOST, LEAST, 1196435762, -1234567, 0x7fffff00, 0x80000000}) {
      for (int m : new int[] {1, 2, 7, 8}) {
        for (int alphabet : new int[] {1, 2, 255, 256}) drawOne(state, m, alphabet);
      }
    }
    says("state: what it was");
    BeginningsFilter x = new BeginningsFilter();
    due("at first", x.state(MOST), 0);
    due("then", x.state(LEAST), MOST);
    due("then", x.state(-1), LEAST);
    due("look", x.look(7), -1);
    says("storm: 1 .. 200 KEYS of up to 1 .. 8 bytes");
    x = built("\0");
    for (int n : new int[] {1, 2, 199, 200}) due("storm " + n, x.storm(n, 8) >= 0, true);
    for (int n : new int[] {0, 201, -1}) due("storm " + n, x.storm(n, 8), NONE);
    due("asked", x.account(0), 402);
    for (int m : new int[] {1, 2, 7, 8}) due("storm of " + m, x.storm(1, m) >= 0, true);
    for (int m : new int[] {0, 9, -1}) due("storm of " + m, x.storm(1, m), NONE);
    due("asked", x.account(0), 406);
    due("ranges not", x.account(3), 0);
    stormsAsSingleQuestions();
    stormRanges();
  }

  /** Twins: one has a storm, the other is asked for each key that is drawn in it. */
  private static void stormsAsSingleQuestions() {
    says("storm, stormRange: asked as by may(), as by range(): how many are FALSE");
    for (int alphabet : new int[] {2, 3, 256}) {
      for (int w : new int[] {0, 1, 100, 255}) {
        BeginningsFilter x = stormy(alphabet);
        BeginningsFilter y = stormy(alphabet);
        int wrong = x.storm(100, 4);
        int wrongRanges = x.stormRange(100, 4, w);
        int s = -99;
        for (int i = 0; i < 200; i++) {
          s = stateBehind(s);
          int n = drawn(s, 4) + 1;
          StringBuilder k = new StringBuilder();
          for (int j = 0; j < n; j++) {
            s = stateBehind(s);
            k.append((char) drawn(s, alphabet));
          }
          String from = k.toString();
          k.setCharAt(n - 1, (char) Math.min(k.charAt(n - 1) + w, 255));
          if (i < 100) may(y, from);
          else range(y, from, k.toString());
        }
        due("false", wrong, y.account(2));
        due("false ranges", wrongRanges, y.account(5));
        for (int i = 0; i < 6; i++) due("account " + i, x.account(i), y.account(i));
        due("state", x.look(7), s);
      }
    }
    for (int w = 0; w < 20; w++) stormOfBytes(w);
    BeginningsFilter x = built("\0\1");
    x.set(4, 1);
    may(x, "\0");
    range(x, "\0", "\0");
    due("its own alone", x.storm(3, 1), 3);
    due("its own alone", x.storm(2, 1), 2);
    due("its own alone", x.stormRange(4, 1, 0), 4);
    due("its own alone", x.stormRange(1, 1, 0), 1);
    due("all together", x.account(2), 6);
    due("all together", x.account(5), 6);
  }

  /** Every seventh byte begins a key of two, so that a range that ends one byte off meets more or fewer. */
  private static void stormOfBytes(int w) {
    BeginningsFilter x = new BeginningsFilter();
    x.set(4, 256);
    for (int i = 0; i < 256; i += 7) x.add(i << 24, 0, 2);
    x.build();
    int wrong = x.stormRange(200, 1, w);
    int due = 0;
    int mayBe = 0;
    int s = 0;
    for (int i = 0; i < 200; i++) {
      s = stateBehind(stateBehind(s));
      int from = drawn(s, 256);
      int to = Math.min(from + w, 255);
      // The beginning of byte 7 k is met from 7 k on, its key 7 k, 0 comes right behind it.
      boolean met = to / 7 * 7 >= from;
      boolean key = met && (to % 7 != 0 || to - 7 >= from);
      mayBe += met ? 1 : 0;
      due += met && !key ? 1 : 0;
    }
    due("false by " + w, wrong, due);
    due("may have by " + w, x.account(4), mayBe);
  }

  private static BeginningsFilter stormy(int alphabet) {
    BeginningsFilter x = built("both", new int[] {1, 1, 9, 1, alphabet, 3}, "\0", "\0\1\1\1", "\1\0", "\1\1\1",
        "\2", "\100", "\200\0\1", "\200\200", "\300\1");
    x.state(-99);
    return x;
  }

  private static void drawOne(int state, int m, int alphabet) {
    BeginningsFilter x = new BeginningsFilter();
    x.set(4, alphabet);
    x.state(state);
    due("fill", x.fill(1, m), 1);
    int s = stateBehind(state);
    int n = drawn(s, m) + 1;
    StringBuilder k = new StringBuilder();
    for (int i = 0; i < n; i++) {
      s = stateBehind(s);
      k.append((char) drawn(s, alphabet));
    }
    due("drawn from " + state + " of " + m + ", " + alphabet, has(x, k.toString(), 0), 0);
    due("state", x.look(7), s);
    x.state(state);
    x.build();
    due("storm draws the same: none is false", x.storm(1, m), 0);
    due("may be", x.account(1), 1);
    due("state", x.look(7), s);
    x.state(state);
    due("so does stormRange", x.stormRange(1, m, 0), 0);
    due("may have", x.account(4), 1);
    due("state", x.look(7), s);
  }

  private static void stormRanges() {
    says("stormRange: 1 .. 200 KEYS; to the KEY whose last byte is w (0 .. 255) more (255 at most)");
    BeginningsFilter x = built("\1\0");
    x.set(4, 1);
    for (int n : new int[] {1, 2, 199, 200}) due("stormRange " + n, x.stormRange(n, 1, 0), 0);
    for (int n : new int[] {0, 201, -1}) due("stormRange " + n, x.stormRange(n, 1, 0), NONE);
    for (int m : new int[] {0, 9, -1}) due("stormRange of " + m, x.stormRange(1, m, 0), NONE);
    for (int w : new int[] {-1, 256}) due("by " + w, x.stormRange(1, 1, w), NONE);
    due("asked", x.account(3), 402);
    due("none may be", x.account(4), 0);
    due("0 .. 1 has the beginning, not the key", x.stormRange(1, 1, 1), 1);
    due("0 .. 2 has the key", x.stormRange(1, 1, 2), 0);
    due("0 .. 254", x.stormRange(1, 1, 254), 0);
    due("0 .. 255", x.stormRange(1, 1, 255), 0);
    due("of eight bytes", x.stormRange(1, 8, 255) >= 0, true);
    due("asked", x.account(3), 407);
    due("may be", x.account(4), 4);
    due("false", x.account(5), 1);
    due("keys not", x.account(0), 0);
    // Of byte 255 it is one range up to 255, whatever w is; 256 would leave the byte.
    for (int w : new int[] {0, 1, 254, 255}) {
      BeginningsFilter y = built("\377");
      y.set(4, 256);
      y.state(stateThatDraws255());
      due("from 255 by " + w, y.stormRange(1, 1, w), 0);
      due("may be", y.account(4), 1);
      y = built("\0");
      y.set(4, 256);
      y.state(stateThatDraws255());
      due("not round to 0 by " + w, y.stormRange(1, 1, w), 0);
      due("none", y.account(4), 0);
      y = built("\377\5", "\377\6");
      y.set(4, 256);
      y.state(stateThatDraws255());
      due("nor to what is behind 255 by " + w, y.stormRange(1, 1, w), 0);
      due("none", y.account(4), 0);
    }
  }

  /** A STATE behind which the second draw of 256 is 255. */
  private static int stateThatDraws255() {
    for (int s = 0; s < 100000; s++) {
      if (drawn(stateBehind(stateBehind(s)), 256) == 255) return s;
    }
    return 0;
  }

  private static void account(BeginningsFilter x, int... want) {
    for (int i = 0; i < 6; i++) due("account " + i, x.account(i), want[i]);
  }

  private static void theAccount() {
    says("ACCOUNT: how often it was asked, how often it MAY be, how often FALSE");
    BeginningsFilter x = built(WORDS);
    account(x, 0, 0, 0, 0, 0, 0);
    may(x, "a");
    account(x, 1, 1, 0, 0, 0, 0);
    may(x, "bc");
    account(x, 2, 2, 1, 0, 0, 0);
    may(x, "x");
    account(x, 3, 2, 1, 0, 0, 0);
    range(x, "bcd", "bcd");
    account(x, 3, 2, 1, 1, 1, 0);
    range(x, "bce", "bcf");
    account(x, 3, 2, 1, 2, 2, 1);
    range(x, "x", "y");
    account(x, 3, 2, 1, 3, 2, 1);
    x.may(0, 0, 0);
    x.may(0, 0, 9);
    range(x, "b", "a");
    x.range(0, 0, 0, 0, 0, 1);
    x.storm(0, 1);
    x.stormRange(1, 1, 256);
    account(x, 3, 2, 1, 3, 2, 1);
    x.build();
    account(x, 3, 2, 1, 3, 2, 1);
    due("account 6", x.account(6), NONE);
    due("account -1", x.account(-1), NONE);
    says("since: how many are in THE SET and not of THE FILTER, how many MAY be there, the other way");
    x = new BeginningsFilter();
    for (int what = 0; what < 3; what++) due("nothing", x.since(what), 0);
    for (int i = 0; i < 64; i++) x.add(0x6b000000, i, 8);
    due("64 came", x.since(0), 64);
    due("none may be", x.since(1), 0);
    x.build();
    due("none came", x.since(0), 0);
    for (int i = 0; i < 64; i++) x.remove(0x6b000000, i, 8);
    due("64 went", x.since(2), 64);
    add(x, "k");
    add(x, "kk");
    due("two came", x.since(0), 2);
    due("none may be", x.since(1), 0);
    x.build();
    add(x, "kkk");
    add(x, "kl");
    due("one of two may be", x.since(1), 1);
    x = built("b", "d");
    add(x, "bb");
    add(x, "dd");
    remove(x, "b");
    due("the first and the last of the set", x.since(1), 2);
    due("one went", x.since(2), 1);
    due("what 3", x.since(3), NONE);
    due("what -1", x.since(-1), NONE);
    due("not asked", x.account(0), 0);
  }
}
