/**
 * The edges that part 1 of the document names: keys, the set, what can be told, the tape, what is built. Right at each, one below it,
 * one above it; what a refused call leaves as it was is in RefusedTests.
 */
public final class KeyEdges extends Bench {
  public static void main(String[] args) {
    keysAndTheSet();
    whatCanBeTold();
    theTape();
    theFilterStays();
    end("KeyEdges");
  }

  private static void keysAndTheSet() {
    aKeyHasOneToEightBytes();
    whatLiesBehindCountsForNothing();
    keysAreInOrder();
    theSetHas64AtMost();
    fillStopsAt64();
    keysStopAt64();
    keysFromTheTape();
    addAndRemoveNumbers();
  }

  private static void aKeyHasOneToEightBytes() {
    says("A KEY: 1 .. 8 bytes");
    BeginningsFilter x = new BeginningsFilter();
    for (int n = 1; n <= 8; n++) due("add of " + n, x.add(0x01010101, 0x01010101, n), n - 1);
    due("add of 0", x.add(0x01010101, 0x01010101, 0), NONE);
    due("add of 9", x.add(0x01010101, 0x01010101, 9), NONE);
    due("the set", x.look(8), 8);
    x.build();
    due("eight bytes ended by none behind them", x.leaf(7, 0), 8);
    for (int n = 1; n <= 8; n++) {
      due("has of " + n, x.has(0x01010101, 0x01010101, n, 0), n - 1);
      due("may of " + n, x.may(0x01010101, 0x01010101, n), 1);
      due("leafOf of " + n, x.leafOf(0x01010101, 0x01010101, n), n - 1);
      due("seek of " + n, x.seek(0x01010101, 0x01010101, n), n - 1);
      due("seekBack of " + n, x.seekBack(0x01010101, 0x01010101, n), n - 1);
      due("range of " + n, x.range(0x01010101, 0x01010101, n, 0x01010101, 0x01010101, n), 1);
      due("meets of " + n, x.meets(0x01010101, 0x01010101, 1, 0x01010101, 0x01010101, n), n);
      due("holds of " + n, x.holds(0x01010101, 0x01010101, n, 0x01010101, 0x01010101, 8), 9 - n);
      due("question of " + n, x.question(0x01010101, 0x01010101, n), n);
      due("spread of " + n, x.spread(0x01010101, 0x01010101, n, 0), n < 8 ? 1 : NONE);
    }
    for (int n = 8; n >= 1; n--) due("remove of " + n, x.remove(0x01010101, 0x01010101, n), n - 1);
  }

  private static void whatLiesBehindCountsForNothing() {
    says("what lies behind its n bytes counts for nothing");
    for (int n = 1; n <= 8; n++) {
      long front = n == 8 ? -1L : ~(-1L >>> 8 * n);
      for (long behind : new long[] {-1L, 0x0102030405060708L, 0x8000000000000001L}) {
        long key = 0x6162636465666768L & front;
        long other = key | behind & ~front;
        BeginningsFilter x = new BeginningsFilter();
        x.add(0x61000000, 0, 1);
        x.add((int) (key >>> 32), (int) key, n);
        x.build();
        behaveAlike(x, (int) (key >>> 32), (int) key, (int) (other >>> 32), (int) other, n);
      }
    }
  }

  private static void behaveAlike(BeginningsFilter x, int a, int b, int c, int d, int n) {
    due("has", x.has(c, d, n, 0), x.has(a, b, n, 0));
    due("has of the filter", x.has(c, d, n, 1), x.has(a, b, n, 1));
    due("is there", x.has(c, d, n, 1) >= 0, true);
    due("may", x.may(c, d, n), 1);
    due("leafOf", x.leafOf(c, d, n), x.leafOf(a, b, n));
    due("seek", x.seek(c, d, n), x.seek(a, b, n));
    due("seekBack", x.seekBack(c, d, n), x.seekBack(a, b, n));
    due("range", x.range(c, d, n, a, b, n), 1);
    due("range", x.range(a, b, n, c, d, n), 1);
    due("meets", x.meets(c, d, n, a, b, n), x.meets(a, b, n, a, b, n));
    due("holds", x.holds(a, b, n, c, d, n), x.holds(a, b, n, a, b, n));
    for (int what = 0; what < 3; what++) due("spread", x.spread(c, d, n, what), x.spread(a, b, n, what));
    x.question(c, d, n);
    due("no false question", x.tuned(0, 2), 0);
    due("add", x.add(c, d, n), NONE);
    int number = x.has(a, b, n, 0);
    due("remove", x.remove(c, d, n), number);
    due("add", x.add(c, d, n), number);
    due("has", x.has(a, b, n, 0), number);
  }

  private static void keysAreInOrder() {
    says("KEYS are in order by their bytes, one that another begins with ahead of that");
    BeginningsFilter x = new BeginningsFilter();
    for (int i = 0; i < IN_ORDER.length; i++) due("add behind all", add(x, IN_ORDER[i]), i);
    for (int i = 0; i < IN_ORDER.length; i++) due("its number", has(x, IN_ORDER[i], 0), i);
    x = new BeginningsFilter();
    for (int i = IN_ORDER.length - 1; i >= 0; i--) due("add ahead of all", add(x, IN_ORDER[i]), 0);
    for (int i = 0; i < IN_ORDER.length; i++) due("its number", has(x, IN_ORDER[i], 0), i);
    x.build();
    for (int i = 0; i < IN_ORDER.length; i++) {
      due("its leaf", leafOf(x, IN_ORDER[i]), i);
      due("itself is a range", range(x, IN_ORDER[i], IN_ORDER[i]), 1);
      if (i > 0) due("no range", range(x, IN_ORDER[i], IN_ORDER[i - 1]), NONE);
      if (i > 0) due("a range", range(x, IN_ORDER[i - 1], IN_ORDER[i]), 1);
    }
    x = new BeginningsFilter();
    for (int i = 1; i < IN_ORDER.length; i += 2) add(x, IN_ORDER[i]);
    for (int i = 0; i < IN_ORDER.length; i += 2) due("add between", add(x, IN_ORDER[i]), i);
  }

  private static void theSetHas64AtMost() {
    says("THE SET: 64 KEYS at most");
    BeginningsFilter x = new BeginningsFilter();
    for (int i = 0; i < 63; i++) due("add", x.add(i << 24, 0, 1), i);
    due("the 64th", x.add(0xff000000, 0, 1), 63);
    due("the 65th ahead of all", x.add(0, 0, 2), NONE);
    due("the 65th behind all", x.add(-1, 0, 2), NONE);
    due("64", x.look(8), 64);
    due("the first stays", x.has(0, 0, 1, 0), 0);
    due("the last stays", x.has(0xff000000, 0, 1, 0), 63);
    due("all of them become leaves", x.build(), 64);
    due("the last leaf", x.leafOf(0xff000000, 0, 1), 63);
    due("one goes", x.remove(0xff000000, 0, 1), 63);
    due("room for one", x.add(0, 0, 2), 1);
    due("no room for another", x.add(0, 0, 3), NONE);
    due("the first goes", x.remove(0, 0, 1), 0);
    due("all move up", x.has(62 << 24, 0, 1, 0), 62);
  }

  private static void fillStopsAt64() {
    says("fill: they come if they are not there and it is not full: how many came");
    BeginningsFilter x = new BeginningsFilter();
    x.set(4, 256);
    for (int i = 0; i < 63; i++) x.add(0x10101010, i, 8);
    due("63 there, room for one of 64", x.fill(64, 8), 1);
    due("64", x.look(8), 64);
    due("none", x.fill(64, 8), 0);
    due("64", x.look(8), 64);
    for (int[] no : new int[][] {{0, 1}, {65, 1}, {1, 0}, {1, 9}}) due("fill", x.fill(no[0], no[1]), NONE);
    x = new BeginningsFilter();
    x.set(4, 256);
    due("1 of up to 1 byte", x.fill(1, 1), 1);
    due("64 of up to 8 bytes", x.fill(64, 8) > 55, true);
    x = new BeginningsFilter();
    x.set(4, 1);
    due("of one sign there are eight keys", x.fill(64, 8), 8);
    due("of which one has one byte", x.has(0, 0, 1, 0), 0);
    due("and one eight", x.has(0, 0, 8, 0), 7);
  }

  private static void keysStopAt64() {
    says("keys: NONE, and none come, if there would be more than 64");
    BeginningsFilter x = new BeginningsFilter();
    for (int i = 0; i < 62; i++) x.add(0x10101010, i, 8);
    due("62 and 3", keys(x, "\1a\1b\1c"), NONE);
    due("none came", x.look(8), 62);
    due("62 and 2, one of them twice, one known", keys(x, "\1a\10\20\20\20\20\0\0\0\0\1a\1b"), 2);
    due("full by known ones", keys(x, "\1a\1b\1a"), 0);
    due("one more", keys(x, "\1a\1b\1c"), NONE);
    due("none came", x.look(8), 64);
    due("nor went", has(x, "a", 0), 62);
    remove(x, "a");
    due("63 and 1", keys(x, "\1b\1c"), 1);
    x = new BeginningsFilter();
    StringBuilder most = new StringBuilder();
    for (int i = 0; i < 64; i++) most.append('\1').append((char) (255 - i));
    due("64 at once", keys(x, most.toString()), 64);
    x = new BeginningsFilter();
    due("65 at once", keys(x, most.append("\1a").toString()), NONE);
    due("none came", x.look(8), 0);
    due("80 of which 64 differ", keys(x, most.substring(0, 128) + most.substring(0, 32)), 64);
  }

  private static void keysFromTheTape() {
    says("keys: each a byte that tells how many bytes, then these; NONE if it can't be read to its end so");
    for (int n = 1; n <= 8; n++) {
      BeginningsFilter x = new BeginningsFilter();
      String bytes = "abcdefgh".substring(0, n);
      due("length " + n, keys(x, (char) n + bytes), 1);
      due("is there", has(x, bytes, 0), 0);
      due("one byte is missing", keys(x, (char) n + bytes.substring(1)), NONE);
      due("a length behind", keys(x, (char) n + "xyzxyzxy".substring(0, n) + (char) n), NONE);
      due("none came", x.look(8), 1);
    }
    BeginningsFilter x = new BeginningsFilter();
    due("an empty tape", keys(x, ""), 0);
    for (int n : new int[] {0, 9, 10, 127, 128, 255}) {
      due("length " + n, keys(x, (char) n + "abcdefghijklmnopqrs"), NONE);
      due("length " + n + " behind a key", keys(x, "\1a" + (char) n + "bcdefghijklmnop"), NONE);
      due("the tape is empty", x.look(18), 0);
    }
    due("none came", x.look(8), 0);
    due("the most of a tape: 17 of 8 bytes and one of 6", keys(x, longTape()), 18);
    due("bytes that are lengths, too", keys(x, "\2\2\2\1\1"), 2);
    due("is there", x.has(0x02020000, 0, 2, 0) >= 0, true);
    due("bytes 0 and 255", keys(x, "\3\0\377\200"), 1);
    due("is there", x.has(0x00ff8000, 0, 3, 0), 0);
  }

  private static String longTape() {
    StringBuilder s = new StringBuilder();
    for (int i = 0; i < 17; i++) s.append("\10abcdefg").append((char) (200 + i));
    return s.append("\6zzzzzz").toString();
  }

  private static void addAndRemoveNumbers() {
    says("remove: the number it had; NONE if it is not there");
    BeginningsFilter x = new BeginningsFilter();
    due("of none", remove(x, "a"), NONE);
    add(x, "b");
    for (String no : new String[] {"a", "c", "b\0", "bb"}) due("remove " + no, remove(x, no), NONE);
    due("stays", x.look(8), 1);
    due("the only one", remove(x, "b"), 0);
    due("again", remove(x, "b"), NONE);
    due("none is left", x.look(8), 0);
    due("anew", add(x, "b"), 0);
  }

  private static void whatCanBeTold() {
    says("What can be told: HASHED 0 .. 8, REAL 0 .. 8, DENSE 0 .. 9, RATIO 1 .. 64, ALPHABET 1 .. 256, SALT any");
    int[] least = {0, 0, 0, 1, 1};
    int[] most = {8, 8, 9, 64, 256};
    int[] first = {4, 4, 9, 16, 4, 0};
    BeginningsFilter x = new BeginningsFilter();
    for (int i = 0; i < 6; i++) due("at first " + i, x.look(i), first[i]);
    for (int i = 0; i < 5; i++) {
      due("one less", x.set(i, least[i] - 1), false);
      due("one more", x.set(i, most[i] + 1), false);
      due("as it was", x.look(i), first[i]);
      for (int v : new int[] {least[i], least[i] + 1, most[i] - 1, most[i]}) {
        due("set " + i + " " + v, x.set(i, v), true);
        due("look " + i, x.look(i), v);
      }
      for (int v : new int[] {LEAST, MOST, -1}) due("set " + i + " " + v, x.set(i, v), false);
      due("as it was", x.look(i), most[i]);
      for (int j = i + 1; j < 6; j++) due("the others stay", x.look(j), first[j]);
    }
    for (int v : new int[] {LEAST, LEAST + 1, -1, 0, 1, MOST - 1, MOST}) {
      due("SALT", x.set(5, v), true);
      due("SALT", x.look(5), v);
    }
    due("what 6", x.set(6, 1), false);
    due("what -1", x.set(-1, 1), false);
    says("H is HASHED by MODE 'hash', 'both', else 0; R is REAL by 'real', 'both', else 0");
    for (int v : new int[] {0, 1, 7, 8}) {
      String[] modes = {"none", "hash", "real", "both"};
      for (int i = 0; i < 4; i++) {
        BeginningsFilter y = built(modes[i], new int[] {v, 8 - v}, WORDS);
        due("H by " + modes[i], y.look(15), i == 1 || i == 3 ? v : 0);
        due("R by " + modes[i], y.look(16), i >= 2 ? 8 - v : 0);
        due("bits of tails", y.bits(2), 5L * (y.look(15) + y.look(16)));
      }
    }
  }

  private static void theTape() {
    says("feed: NONE, and none come, if it would have more than 160");
    BeginningsFilter x = new BeginningsFilter();
    for (int i = 1; i <= 7; i++) due("feed", x.feed(0, 0, 0, 0, 0), 20 * i);
    due("to 160", x.feed(1, 1, 1, 1, 1), 160);
    due("to 180", x.feed(2, 2, 2, 2, 2), NONE);
    due("bytes", x.look(18), 160);
    for (int n : new int[] {159, 150, 142, 141}) {
      due("end", x.end(n), true);
      due("to " + (n + 20), x.feed(0, 0, 0, 0, 0), NONE);
      due("bytes", x.look(18), n);
    }
    due("end", x.end(140), true);
    due("to 160", x.feed(0, 0, 0, 0, 0), 160);
    due("end", x.end(139), true);
    due("to 159", x.feed(0, 0, 0, 0, 0), 159);
    says("end: false if it has not so many, or n is below 0");
    due("one more", x.end(160), false);
    due("all", x.end(159), true);
    due("below 0", x.end(-1), false);
    due("bytes", x.look(18), 159);
    due("one", x.end(1), true);
    due("two of one", x.end(2), false);
    due("none", x.end(0), true);
    due("none of none", x.end(0), true);
    due("one of none", x.end(1), false);
    says("of each number the highest first");
    due("feed", x.feed(0x03ff8001, 0x01020304, 0, 0, 0), 20);
    x.end(6);
    due("two keys", x.keys(), 2);
    due("ff 80 01", x.has(0xff800100, 0, 3, 0), 1);
    due("02", x.has(0x02000000, 0, 1, 0), 0);
    says("what comes behind a shorter tape is right behind it");
    tape(x, "both");
    x.end(2);
    x.feed(0x74680000, 0, 0, 0, 0);
    x.end(4);
    due("bo and th", x.mode(), 3);
    namesOnTheTape();
  }

  private static void namesOnTheTape() {
    says("mode, row: THE TAPE (it is empty then) is the name");
    BeginningsFilter x = new BeginningsFilter();
    String[] modes = {"none", "hash", "real", "both"};
    String[] rows = {"labels", "kids", "ends", "marks", "lower", "firsts"};
    due("none at first", x.look(6), 0);
    for (int i = 3; i >= 0; i--) {
      due(modes[i], mode(x, modes[i]), i);
      due("told", x.look(6), i);
      due("empty", x.look(18), 0);
      due("no row", row(x, modes[i]), NONE);
      due("empty", x.look(18), 0);
    }
    for (int i = 0; i < 6; i++) {
      due(rows[i], row(x, rows[i]), i);
      due("empty", x.look(18), 0);
      due("no mode", mode(x, rows[i]), NONE);
      due("one sign less", row(x, rows[i].substring(1)), NONE);
      due("one sign less", row(x, rows[i].substring(0, rows[i].length() - 1)), NONE);
      due("one sign more", row(x, rows[i] + "\0"), NONE);
    }
    for (int i = 0; i < 4; i++) {
      due("one sign less", mode(x, modes[i].substring(0, 3)), NONE);
      due("one sign more", mode(x, modes[i] + "\0"), NONE);
    }
    due("a full tape", fullTape(x).mode(), NONE);
    due("a full tape", fullTape(x).row(), NONE);
    due("empty", x.look(18), 0);
    due("none is told still", x.look(6), 0);
  }

  private static BeginningsFilter fullTape(BeginningsFilter x) {
    for (int i = 0; i < 8; i++) x.feed(0x6e6f6e65, 0, 0, 0, 0);
    return x;
  }

  private static void theFilterStays() {
    says("THE FILTER stays as it is, whatever is told later, until it is BUILT anew (at first: of no KEYS)");
    BeginningsFilter x = new BeginningsFilter();
    for (String k : WORDS) add(x, k);
    due("at first of no keys", x.look(9), 0);
    due("nodes", x.look(10), 0);
    due("levels", x.look(11), 0);
    due("bits", x.bits(3), 0);
    due("not there", may(x, "a"), 0);
    due("all came since", x.since(0), 5);
    int[] told = {8, 8, 1, 1, 3, 5};
    String as = filter(built("both", told, WORDS));
    for (int what = 0; what < 6; what++) {
      BeginningsFilter y = built("both", told, WORDS);
      y.set(what, 2);
      due("told later " + what, filter(y), as);
      due("upper", y.look(12), 1);
      due("may", may(y, "bcd"), 1);
      y.build();
      due("built anew " + what, filter(y).equals(as), what == 3 || what == 4);
    }
    BeginningsFilter y = built("both", told, WORDS);
    mode(y, "none");
    due("mode told later", filter(y), as);
    due("H", y.look(15), 8);
    due("R", y.look(16), 8);
    y.build();
    due("H built anew", y.look(15), 0);
    due("R built anew", y.look(16), 0);
    y = built("both", told, WORDS);
    for (String k : WORDS) remove(y, k);
    due("set changed later", filter(y), as);
    due("built of none", y.build(), 0);
    due("no nodes", y.look(10), 0);
    due("no bits", y.bits(3), 0);
    ratioStays();
  }

  private static void ratioStays() {
    BeginningsFilter x = new BeginningsFilter();
    x.set(3, 1);
    for (int i = 0; i < 47; i++) x.add(i << 16, 0, 2);
    x.build();
    due("by RATIO 1", x.look(12), 1);
    x.set(3, 64);
    due("told later", x.look(12), 1);
    due("told later", x.bits(0), 513);
    x.build();
    due("built anew", x.look(12), 0);
  }
}
